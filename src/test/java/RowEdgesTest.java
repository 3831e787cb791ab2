/** The limits of rows (registers, SIZE, WHILEs in one another), and what a compile that is refused leaves. */
public final class RowEdgesTest {
  private static final String[] HEADS = {"P{", "P{}Q{", "P{}Q{}R{"};

  public static void main(String[] args) {
    registers();
    registersInOrder();
    sizeOfItems();
    sizeOfCalls();
    sizeOverAllParts();
    whiles();
    whilesOfCalls();
    whichOneIsThrown();
    whatRefusedLeaves();
    whatCompileLeaves();
    Check.end();
  }

  private static void due(String what, String text, long want) {
    Check.due(what + ": " + text, Check.compile(new PassChain(), text), want);
    if (text.length() > 120) {
      Check.due(what + ": characters", text.length(), 120);
    }
  }

  /** As main part, and as each procedure, which nobody calls. */
  private static void dueInAll(String what, String text, int items, boolean fits) {
    due(what, text, fits ? items : Check.STATE);
    for (String head : HEADS) {
      due(what, head + text + "}", fits ? 0 : Check.STATE);
    }
  }

  private static String prints(int registers) {
    return registers % 2 == 0 ? "!1" + "+1".repeat((registers - 8) / 2) + ";"
        : "!1;!1" + "+1".repeat((registers - 9) / 2) + ";";
  }

  private static void registers() {
    dueInAll("58 registers", prints(58), 52, true);
    dueInAll("59 registers", prints(59), 54, true);
    dueInAll("60 registers", prints(60), 54, true);
    dueInAll("61 registers", prints(61), 56, false);
    dueInAll("62 registers", prints(62), 56, false);
    for (int n = 58; n <= 60; n++) {
      PassChain x = Check.program("P{" + prints(n) + "}");
      Check.due("registers of P", x.size(0, 1), n);
      Check.due("registers of the main part", x.size(3, 1), 7);
      Check.due("its last item", Check.rows(x, 0).replaceAll(".*; ", ""), "6 " + (n - 1));
    }
    String minus = "!-----a;".repeat(5);
    dueInAll("57 by minus", minus, 55, true);
    dueInAll("60 by minus and LOAD", minus + "!A[A[A[a]]];", 59, true);
    dueInAll("61 by minus and LOAD", minus + "!A[A[A[A[a]]]];", 60, false);
    due("60 in each of two", "P{" + prints(60) + "}" + prints(56), 50);
    PassChain x = Check.program(prints(60));
    x.run(2000);
    Check.due("the 60th works", Check.printed(x), "27");
  }

  private static void registersInOrder() {
    PassChain x = Check.program("P{a=1;}Q{A[2]=-x;}b=3+A[4];!5;");
    Check.due("P's begin with 7", Check.rows(x, 0), "0 7 1; 1 0 7");
    Check.due("and so do Q's", Check.rows(x, 1), "0 7 2; 0 8 0; 2 9 8 6 1; 4 7 9");
    Check.due("and the main part's", Check.rows(x, 3), "0 7 3; 0 8 4; 3 9 8; 2 10 7 9 0; 1 1 10; 0 11 5; 6 11");
    Check.due("P's", x.size(0, 1), 8);
    Check.due("Q's", x.size(1, 1), 10);
    Check.due("main part's", x.size(3, 1), 12);
    PassChain y = Check.program("a=b;A[c]=d;?e;!f;Ia{}{}Wb{}");
    Check.due("those without any", y.size(3, 1), 7);
  }

  private static void sizeOfItems() {
    // 13 in P; a CALL of it is 1 and 13; a WHILE is 3, an IF 3.
    String p = "P{" + "!a;".repeat(13) + "}";
    String calls = "P(a);".repeat(10);
    due("SIZE 148", p + calls + "Wa{}Wa{}?a;?a;", 18);
    due("SIZE 149", p + calls + "Wa{}Wa{}Wa{}", 19);
    due("SIZE 150", p + calls + "Wa{}Wa{}Wa{}?a;", 20);
    due("SIZE 151", p + calls + "Wa{}Wa{}Wa{}?a;?a;", Check.STATE);
    due("SIZE 150 of Q", p + "Q{" + calls + "Wa{}Wa{}Wa{}?a;}", 0);
    due("SIZE 151 of Q", p + "Q{" + calls + "Wa{}Wa{}Wa{}?a;?a;}", Check.STATE);
    due("SIZE 150 with an IF", p + calls + "Ia{}{}Wa{}Wa{}?a;", 20);
    due("SIZE 152 with two", p + calls + "Ia{}{}Ia{}{}Wa{}Wa{}", Check.STATE);
    due("SIZE 150 in blocks", p + "Wa{P(a);P(a);P(a);}Ia{P(a);P(a);P(a);}{P(a);P(a);}P(a);P(a);Wa{}?a;", 20);
    due("SIZE 151 in blocks", p + "Wa{P(a);P(a);P(a);}Ia{P(a);P(a);P(a);}{P(a);P(a);}P(a);P(a);Wa{}?a;?a;",
        Check.STATE);
  }

  private static void sizeOfCalls() {
    // P 5, Q 5 * 6 = 30, R 4 * 31 = 124 and what more is in it.
    String pqr = "P{a=b;a=b;a=b;a=b;a=b;}Q{P(a);P(a);P(a);P(a);P(a);}R{Q(a);Q(a);Q(a);Q(a);P(a);P(a);";
    due("SIZE 149 of R, with 13 more", pqr + "P(a);P(a);!a;}", 0);
    due("SIZE 150 of R", pqr + "P(a);P(a);!a;!a;}", 0);
    due("SIZE 151 of R", pqr + "P(a);P(a);!a;!a;!a;}", Check.STATE);
    String half = "P{a=b;a=b;a=b;a=b;a=b;}Q{P(a);P(a);P(a);P(a);P(a);}R{Q(a);Q(a);P(a);P(a);}";
    // R is 2 * 31 + 2 * 6 = 74, a CALL of it 75.
    due("SIZE 150 by two CALLs", half + "R(a);R(a);", 2);
    due("SIZE 151 by two CALLs", half + "R(a);R(a);!a;", Check.STATE);
    due("SIZE 149 by CALLs of all", half + "R(a);Q(a);Q(a);P(a);P(a);", 5);
    due("SIZE 155 by CALLs of all", half + "R(a);Q(a);Q(a);P(a);P(a);P(a);", Check.STATE);
  }

  private static void sizeOverAllParts() {
    String p = "P{" + "!a;".repeat(13) + "}";
    due("SIZEs are not added where nobody calls", p + "Q{P(a);P(a);P(a);P(a);P(a);}R{P(a);P(a);P(a);}P(a);P(a);P(a);",
        3);
    // Behind INLINE each item is there, and still no more than 150.
    PassChain x = Check.program(p + "P(a);".repeat(10) + "Wa{}Wa{}Wa{}?a;");
    Check.due("ten CALLs go", x.pass(4), 10);
    Check.due("150 items", x.size(3, 0), 150);
    Check.due("the last is there", x.item(3, 149, 0), 5);
    Check.due("none behind it", () -> x.item(3, 150, 0), Check.NO_ELEMENT);
    Check.due("letters", x.count(2), 10 * (2 + 13 * 2) + 3 * 3 + 2 + 1 + 2 + 13 * 2);
    Check.due("a run of them", x.run(2000), 4);
    Check.due("of which 40 are printed", x.count(4), 40);
  }

  private static void whiles() {
    dueInAll("2 WHILEs", "Wa{Wb{}}", 6, true);
    dueInAll("3 WHILEs", "Wa{Wb{Wc{}}}", 9, true);
    dueInAll("4 WHILEs", "Wa{Wb{Wc{Wd{}}}}", 12, false);
    dueInAll("3 and 3 beside", "Wa{Wb{Wc{}}}Wa{Wb{Wc{}Wd{}}We{}}", 24, true);
    dueInAll("4 behind 3", "Wa{Wb{Wc{}}}Wa{Wb{}Wb{Wc{}Wc{Wd{}}}}", 27, false);
    dueInAll("3 with an IF between", "Wa{Ib{Wc{Wd{}}}{}}", 12, true);
    due("4 with an IF between", "Wa{Ib{}{Wc{Wd{We{}}}}}", Check.STATE);
    due("5 WHILEs", "Wa{Wb{Wc{Wd{We{}}}}}", Check.STATE);
    due("6 WHILEs are 6 blocks", "Wa{Wb{Wc{Wd{We{Wf{}}}}}}", Check.ARGUMENT);
  }

  private static void whilesOfCalls() {
    String[] bodies = {"", "Wa{}", "Wa{Wa{}}", "Wa{Wa{Wa{}}}"};
    for (int in = 0; in <= 3; in++) {
      for (int about = 0; about <= 3; about++) {
        String text = "P{" + bodies[in] + "}" + "Wb{".repeat(about) + "P(1);" + "}".repeat(about);
        boolean fits = in + about <= 3;
        due(in + " in " + about, text, fits ? 3 * about + 2 : Check.STATE);
        due(in + " in " + about + " of Q", text.replace("}W", "}Q{W").replace("}P", "}Q{P") + "}", fits ? 0 : Check.STATE);
      }
    }
    due("3 over three CALLs", "P{Wa{}}Q{P(1);}R{Wa{Q(1);}}Wa{R(1);}", 5);
    due("4 over three CALLs", "P{Wa{}}Q{Wa{P(1);}}R{Wa{Q(1);}}Wa{R(1);}", Check.STATE);
    due("4 over a CALL that stands in an IF", "P{Wa{Wa{}}}Wa{Wa{Ia{}{P(1);}}}", Check.STATE);
    due("behind a WHILE is not in it", "P{Wa{Wa{}}}Wa{Wa{}}P(1);Wa{Wa{}}", 14);
    due("the greatest of two called counts", "P{Wa{Wa{}}}Q{}Wa{Wa{P(1);Q(1);}}", Check.STATE);
    due("and not the least", "P{Wa{Wa{}}}Q{}Wa{P(1);Wa{Q(1);Wa{}}}", 13);
  }

  private static void whichOneIsThrown() {
    String[] great = {prints(61), "Wa{Wb{Wc{Wd{}}}}"};
    for (String text : great) {
      due("too great", text, Check.STATE);
      due("too great, but no program", text + "!", Check.ARGUMENT);
      due("too great, but with a blank", text + " ", Check.ARGUMENT);
      due("a program behind one that is too great", "P{" + text + "}Q{}", Check.STATE);
      due("none behind one that is too great", "P{" + text + "}R{}", Check.ARGUMENT);
    }
  }

  /** All that can be there is: text, input, numbers printed, changes that stayed and one that did not. */
  private static PassChain busy() {
    PassChain x = Check.program("P{!x+2;}?a;?b;P(a);!b;I0{!1;}{}");
    x.feed(50);
    x.feed(-60);
    x.run(17);
    x.pass(0);
    x.pass(4);
    x.touch(3, 3, 1, 9);
    x.touch(0, 0, 1, 3);
    return x;
  }

  private static void whatRefusedLeaves() {
    PassChain x = busy();
    Check.due("stayed", x.count(6), 3);
    Check.due("did not", x.count(7), 1);
    Check.due("printed", x.count(4), 1);
    String[] none = {"!", "a=1; ", "Q{}", "!123456;", "!------a;", "Wa{Wb{Wc{Wd{We{Wf{}}}}}}", "P{P(1);}", "P{}Q{}R{}S{}",
      "!x;", "?".repeat(120)};
    for (String text : none) {
      Check.leaves("compile of " + text, () -> written(text), y -> y.compile(), Check.ARGUMENT, RowEdgesTest::busy);
    }
    String[] great = {prints(61), "Wa{Wb{Wc{Wd{}}}}", "P{Wa{Wb{}}}Wa{Wb{P(1);}}", "P{}Q{}R{" + prints(61) + "}",
      "P{" + "!a;".repeat(14) + "}" + "P(a);".repeat(10) + "?a;"};
    for (String text : great) {
      Check.leaves("compile of " + text, () -> written(text), y -> y.compile(), Check.STATE, RowEdgesTest::busy);
    }
  }

  private static PassChain written(String text) {
    PassChain x = busy();
    Check.due("all is put", Check.of(Check.write(x, text)), 1);
    return x;
  }

  private static void whatCompileLeaves() {
    PassChain x = written("P{}?f;!f;");
    Check.due("compile", () -> x.compile(), 2);
    int[] counts = {0, 1, 7, 2, 1, 17, 0, 0};
    for (int what = 0; what < counts.length; what++) {
      Check.due("count " + what, x.count(what), counts[what]);
    }
    Check.due("printed as before", Check.printed(x), "52");
    x.restore();
    Check.due("restored to the new one", Check.rows(x, 3), "5 5; 6 5");
    x.run(100);
    Check.due("input as before", Check.printed(x), "50");
    Check.due("compile of the text that is empty now", () -> x.compile(), 0);
    Check.due("no procedures", x.count(1), 0);
    Check.due("no items", x.size(3, 0), 0);
  }
}
