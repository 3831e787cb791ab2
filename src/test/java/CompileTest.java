/** Promise 3: compile. */
public final class CompileTest {
  public static void main(String[] args) {
    items();
    order();
    programs();
    noPrograms();
    nesting();
    limits();
    whatStays();
    Check.end();
  }

  private static void made(String text, int part, String rows) {
    PassChain x = Check.program(text);
    Check.due("rows of " + text, Check.rows(x, part), rows);
  }

  private static void items() {
    made("a=5;", 3, "0 7 5; 1 0 7");
    made("f=b;", 3, "1 5 1");
    made("!a+b;", 3, "2 7 0 1 0; 6 7");
    made("!a-b;", 3, "2 7 0 1 1; 6 7");
    made("!a*b;", 3, "2 7 0 1 2; 6 7");
    made("!a/b;", 3, "2 7 0 1 3; 6 7");
    made("!a<b;", 3, "2 7 0 1 4; 6 7");
    made("!a=b;", 3, "2 7 0 1 5; 6 7");
    made("!A[c];", 3, "3 7 2; 6 7");
    made("A[a]=b;", 3, "4 0 1");
    made("A[1]=A[2];", 3, "0 7 1; 0 8 2; 3 9 8; 4 7 9");
    made("?d;", 3, "5 3");
    made("!(a);", 3, "6 0");
    made("!-a;", 3, "0 7 0; 2 8 7 0 1; 6 8");
    made("!--3;", 3, "0 7 0; 0 8 0; 0 9 3; 2 10 8 9 1; 2 11 7 10 1; 6 11");
    made("Ia{b=c;}{!d;}", 3, "8 0; 1 1 2; 9; 6 3; 12");
    made("Wa<3{?b;}", 3, "10; 0 7 3; 2 8 0 7 4; 11 8; 5 1; 12");
    made("P{!x;}P(a);", 0, "6 6");
    made("P{!x;}P(a);", 3, "7 0 0");
    made("P{}Q{P(x);}R{Q(1);P(x);}R(2);", 2, "0 7 1; 7 7 1; 7 6 0");
    made("", 3, "");
    made("!00012;!99999;", 3, "0 7 12; 6 7; 0 8 99999; 6 8");
  }

  private static void order() {
    made("a=b=c;", 3, "2 7 1 2 5; 1 0 7");
    made("!a-b-c;", 3, "2 7 0 1 1; 2 8 7 2 1; 6 8");
    made("!a/b*c;", 3, "2 7 0 1 3; 2 8 7 2 2; 6 8");
    made("!a-b*c;", 3, "2 7 1 2 2; 2 8 0 7 1; 6 8");
    made("!a*b-c;", 3, "2 7 0 1 2; 2 8 7 2 1; 6 8");
    made("!a+b<c-d;", 3, "2 7 0 1 0; 2 8 2 3 1; 2 9 7 8 4; 6 9");
    made("!(a<b)=1;", 3, "2 7 0 1 4; 0 8 1; 2 9 7 8 5; 6 9");
    made("!-a*b;", 3, "0 7 0; 2 8 7 0 1; 2 9 8 1 2; 6 9");
    made("!a--b;", 3, "0 7 0; 2 8 7 1 1; 2 9 0 8 1; 6 9");
    made("!A[A[1]+2]*3;", 3, "0 7 1; 3 8 7; 0 9 2; 2 10 8 9 0; 3 11 10; 0 12 3; 2 13 11 12 2; 6 13");
  }

  private static void programs() {
    Check.due("main part's items", Check.compile(new PassChain(), "P{!1;!2;!3;}P(4);"), 2);
    String[] texts = {"P{}", "P{}Q{}R{}", "P{}Q{P(1);}R{P(1);Q(2);}P(1);Q(2);R(3);", "Ia{}{}", "W0{}",
      "P{a=x;}", "P{!A[x];}", "Ia<b{}{Wc{}}", "!((((a))));", "A[0]=0;"};
    for (String text : texts) {
      Check.due("is a program: " + text, Check.of(Check.compile(new PassChain(), text) >= 0), 1);
    }
  }

  private static void noPrograms() {
    String[] texts = {" ", "a=1; ", "a =1;", "a", "a=", "a=1", "a=;", "1;", "a+b;", "g=1;", "x=1;", "A=1;",
      "A[1=2;", "A[]=1;", "A[1]=;", "!;", "!x;", "?;", "?x;", "?A[1];", "?1;", "Ia{}", "Ia{}{};", "I{}{}",
      "Ia{}{", "Wa", "W{}", "Wa{", "Wa{}}", "}", "{", "{}", ";", "P(1);", "P{}Q(1);", "P{P(1);}",
      "P{Q(1);}Q{}", "P{}Q{Q(1);}", "P{}Q{R(1);}R{}", "Q{}", "P{}R{}", "R{}", "P{}Q{}R{}P{}", "P{}P{}",
      "P{}Q{}P(1)", "P{}P();", "P{}P1;", "P{}a=1;Q{}", "a=1;P{}", "P", "P{", "P{}x=1;", "P{x=1;}",
      "!123456;", "!a<b<c;", "!a=b=c;", "a=b=c=d;", "!a+;", "!+a;", "!*a;", "!a*/b;", "!(a;", "!a);", "!();",
      "!A[1;", "!A1];", "!-;", "!a b;", "!1a;", "!ab;", "S{}", "P{}S(1);", "a:=1;", "!a>b;", "~", "!1.5;"};
    for (String text : texts) {
      Check.due("is no program: " + text, Check.compile(new PassChain(), text), Check.ARGUMENT);
    }
  }

  private static String times(String one, int n) {
    return one.repeat(n);
  }

  private static void nesting() {
    due("5 brackets", "!" + times("(", 5) + "a" + times(")", 5) + ";", 1);
    due("6 brackets", "!" + times("(", 6) + "a" + times(")", 6) + ";", Check.ARGUMENT);
    due("5 minus", "!" + times("-", 5) + "a;", 11);
    due("6 minus", "!" + times("-", 6) + "a;", Check.ARGUMENT);
    due("5 cells", "!" + times("A[", 5) + "a" + times("]", 5) + ";", 6);
    due("6 cells", "!" + times("A[", 6) + "a" + times("]", 6) + ";", Check.ARGUMENT);
    due("5 of all kinds", "!-(A[-(a)]);", 6);
    due("6 of all kinds", "!-(A[-(-a)]);", Check.ARGUMENT);
    due("5 beside 5", "!(((((a)))))+(((((b)))));", 2);
    due("5 inside the A[ ] of a statement", "A[(((((a)))))]=(((((b)))));", 1);
    due("5 inside a CALL", "P{}P((((((a))))));", 1);
    due("5 blocks", times("Wa{", 3) + times("Ia{", 2) + "!a;" + times("}{}", 2) + times("}", 3), 16);
    due("5 blocks, the last a latter", times("Ia{}{", 5) + times("}", 5), 15);
    due("6 blocks", times("Ia{", 6) + times("}{}", 6), Check.ARGUMENT);
    due("6 blocks, the last a latter", times("Ia{}{", 6) + times("}", 6), Check.ARGUMENT);
    due("5 blocks in a procedure", "P{" + times("Ia{", 4) + times("}{}", 4) + "}", 0);
    due("6 blocks in a procedure", "P{" + times("Ia{", 5) + times("}{}", 5) + "}", Check.ARGUMENT);
  }

  private static void due(String what, String text, long want) {
    Check.due(what + ": " + text, Check.compile(new PassChain(), text), want);
  }

  private static void limits() {
    // A number makes a register, and so does a sum of it: 7 and 53 are 60.
    due("60 registers", "!1" + times("+1", 26) + ";", 54);
    due("61 registers", "!1" + times("+1", 26) + ";!1;", Check.STATE);
    due("61 in a procedure that nobody calls", "P{!1" + times("+1", 26) + ";!1;}", Check.STATE);
    due("no program is none before it is too great", "!1" + times("+1", 26) + ";!1;!", Check.ARGUMENT);
    due("3 WHILEs", "Wa{Wb{Wc{}}}", 9);
    due("4 WHILEs", "Wa{Wb{Wc{Wd{}}}}", Check.STATE);
    due("4 WHILEs, no program", "Wa{Wb{Wc{Wd{}}}}!", Check.ARGUMENT);
    due("IFs do not count", "Wa{Ib{Wc{Id{We{}}{}}}{}}", 15);
    due("2 in a CALL in 1", "P{Wa{Wb{}}}Wc{P(1);}", 5);
    due("2 in a CALL in 2", "P{Wa{Wb{}}}Wc{Wd{P(1);}}", Check.STATE);
    due("1 in 1 in 1 in 1", "P{Wa{}}Q{Wa{P(1);}}R{Wa{Q(1);}}Wa{R(1);}", Check.STATE);
    due("1 in 1 in 1 beside 1", "P{Wa{}}Q{Wa{P(1);}}R{Wa{Q(1);}}Wa{}R(1);", 5);
    due("a CALL behind the WHILE", "P{Wa{Wb{}}}Wc{Wd{}}P(1);", 8);
    due("4 in a part that nobody calls", "P{Wa{Wb{}}}Q{Wa{Wb{P(1);}}}", Check.STATE);
    // P has 13 items; a CALL of it is 1 + 13, and there are 10 of these and 10 more: 150.
    String p = "P{" + times("!a;", 13) + "}" + times("P(a);", 10) + "Wa{}Wa{}Wa{}";
    due("SIZE 150", p + "?a;", 20);
    due("SIZE 151", p + "?a;?a;", Check.STATE);
    // P 5, Q 5 * 6 = 30, four CALLs of Q 124 and 26 more: 150.
    String pq = "P{a=b;a=b;a=b;a=b;a=b;}Q{P(a);P(a);P(a);P(a);P(a);}Q(a);Q(a);Q(a);Q(a);";
    due("SIZE 150 over two", pq + times("P(a);", 4) + "!a;!a;", 10);
    due("SIZE 151 over two", pq + times("P(a);", 4) + "!a;!a;!a;", Check.STATE);
  }

  private static void whatStays() {
    PassChain x = Check.program("P{!x;}P(7);!1+2;");
    x.feed(3);
    x.run(100);
    int steps = x.count(5);
    x.pass(0);
    Check.due("a touch that does not stay", () -> Check.of(x.touch(3, 0, 1, 8)), 0);
    String rows = Check.rows(x, 3);
    Check.due("no program", Check.compile(x, "!"), Check.ARGUMENT);
    Check.due("too great", Check.compile(x, "Wa{Wb{Wc{Wd{}}}}"), Check.STATE);
    Check.due("the program stays", Check.rows(x, 3), rows);
    Check.due("with its procedure", Check.rows(x, 0), "6 6");
    Check.due("procedures", x.count(1), 1);
    Check.due("changes that stayed", x.count(6), 1);
    Check.due("changes that did not", x.count(7), 1);
    Check.due("text", x.count(0), 0);
    Check.due("a new program", Check.compile(x, "!b;"), 1);
    Check.due("procedures then", x.count(1), 0);
    Check.due("no P any more", x.size(0, 0), -1);
    Check.due("registers then", x.size(3, 1), 7);
    Check.due("stayed, since it was compiled", x.count(6), 0);
    Check.due("did not, since it was compiled", x.count(7), 0);
    Check.due("input stays", x.count(3), 1);
    Check.due("numbers printed stay", Check.printed(x), "7 3");
    Check.due("steps stay", x.count(5), steps);
    Check.due("compile of no text", () -> x.compile(), 0);
    Check.due("is the program without items", x.size(3, 0), 0);
  }
}
