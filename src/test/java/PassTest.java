/** Promise 4: the five passes. */
public final class PassTest {
  public static void main(String[] args) {
    constants();
    constantsInWays();
    common();
    dead();
    hoist();
    inline();
    inlineUpToTheLimit();
    whatDoesNotStay();
    wrong();
    Check.end();
  }

  /** A pass over a new program: its answer, and the rows of the main part then. */
  private static void main(int kind, String text, long want, String rows) {
    part(kind, text, want, 3, rows);
  }

  private static void part(int kind, String text, long want, int part, String rows) {
    PassChain x = Check.program(text);
    Check.due("pass " + kind + " of " + text, () -> x.pass(kind), want);
    Check.due("rows behind pass " + kind + " of " + text, Check.rows(x, part), rows);
    Check.due("it stayed", x.count(6), 1);
    Check.due("none did not", x.count(7), 0);
  }

  private static void constants() {
    main(0, "a=2*3+1;!a/0;", 3,
        "0 7 2; 0 8 3; 0 9 6; 0 10 1; 0 11 7; 0 0 7; 0 12 0; 2 13 0 12 3; 6 13");
    main(0, "b=a;", 1, "0 1 0");
    main(0, "!7/2;!2<3;!2=3;!2-3;", 4, "0 7 7; 0 8 2; 0 9 3; 6 9; 0 10 2; 0 11 3; 0 12 1; 6 12; "
        + "0 13 2; 0 14 3; 0 15 0; 6 15; 0 16 2; 0 17 3; 0 18 -1; 6 18");
    main(0, "!65536*32768;", 1, "0 7 65536; 0 8 32768; 0 9 -2147483648; 6 9");
    main(0, "?a;b=a;!b+1;", 0, "5 0; 1 1 0; 0 7 1; 2 8 1 7 0; 6 8");
    main(0, "a=A[0];b=a;", 0, "0 7 0; 3 8 7; 1 0 8; 1 1 0");
    main(0, "b=1/0;c=b;", 0, "0 7 1; 0 8 0; 2 9 7 8 3; 1 1 9; 1 2 1");
    main(0, "P{}a=1;P(2);b=a;", 1, "0 7 1; 0 0 1; 0 8 2; 7 8 0; 1 1 0");
    part(0, "P{b=a;c=x;d=2;e=d;}", 2, 0, "1 1 0; 1 2 6; 0 7 2; 0 3 2; 0 4 2");
  }

  private static void constantsInWays() {
    main(0, "I1{!1;}{!2;}", 1, "0 7 1; 0 8 1; 6 8");
    main(0, "Ia{!1;}{!2;}", 1, "0 8 2; 6 8");
    main(0, "I0{I1{}{}}{I1{b=a;}{}}", 3, "0 7 0; 0 9 1; 0 1 0");
    main(0, "?a;b=1;c=1;Ia{b=2;d=3;}{b=2;d=4;}e=b;f=d;e=c;", 8, "5 0; 0 7 1; 0 1 1; 0 8 1; 0 2 1; 8 0; "
        + "0 9 2; 0 1 2; 0 10 3; 0 3 3; 9; 0 11 2; 0 1 2; 0 12 4; 0 3 4; 12; 0 4 2; 1 5 3; 0 4 1");
    main(0, "?a;Ia{b=a;}{c=b;}c=b;", 1, "5 0; 8 0; 1 1 0; 9; 0 2 0; 12; 1 2 1");
    main(0, "b=2;c=3;Wa<b{a=a+1;c=c;d=b;}e=c;f=b;", 4, "0 7 2; 0 1 2; 0 8 3; 0 2 3; 10; 2 9 0 1 4; 11 9; "
        + "0 10 1; 2 11 0 10 0; 1 0 11; 1 2 2; 0 3 2; 12; 1 4 2; 0 5 2");
    main(0, "Wa{b=1;}c=b;", 1, "10; 11 0; 0 7 1; 0 1 1; 12; 1 2 1");
    main(0, "Wa+1{}!1+1;", 2, "10; 0 7 1; 0 8 1; 11 8; 12; 0 9 1; 0 10 1; 0 11 2; 6 11");
    main(0, "P{}Wb{P(c);}d=a;", 0, "10; 11 1; 7 2 0; 12; 1 3 0");
    main(0, "Wb{Ic{d=1;}{}}e=d;", 1, "10; 11 1; 12; 1 4 3");
    main(0, "Wa{Ib{b=1;}{}}", 1, "10; 11 0; 8 1; 0 7 1; 0 1 1; 9; 12; 12");
  }

  private static void common() {
    main(1, "!a+b;!a+b;", 2, "2 7 0 1 0; 6 7; 1 8 7; 6 7");
    main(1, "!a+b;!b+a;!a-b;", 0, "2 7 0 1 0; 6 7; 2 8 1 0 0; 6 8; 2 9 0 1 1; 6 9");
    main(1, "c=a;!c+b;!a+b;", 3, "1 2 0; 2 7 0 1 0; 6 7; 1 8 7; 6 7");
    main(1, "!A[a];!A[a];A[b]=c;!A[a];", 2, "3 7 0; 6 7; 1 8 7; 6 7; 4 1 2; 3 9 0; 6 9");
    main(1, "!a+b;Ic{!a+b;}{!a+b;}!a+b;", 0,
        "2 7 0 1 0; 6 7; 8 2; 2 8 0 1 0; 6 8; 9; 2 9 0 1 0; 6 9; 12; 2 10 0 1 0; 6 10");
    main(1, "c=a;Ic{!c;}{}", 1, "1 2 0; 8 0; 6 2; 9; 12");
    main(1, "W1+1=1+1{}", 3,
        "10; 0 7 1; 0 8 1; 2 9 7 7 0; 0 10 1; 0 11 1; 1 12 9; 2 13 9 9 5; 11 13; 12");
    main(1, "?a;b=a;?a;!b;!a;", 0, "5 0; 1 1 0; 5 0; 6 1; 6 0");
    main(1, "?a;b=a;!b;", 1, "5 0; 1 1 0; 6 0");
    main(1, "P{}c=a;P(c);!c;", 1, "1 2 0; 7 0 0; 6 2");
    main(1, "a=b+c;a=b+c;", 2, "2 7 1 2 0; 1 0 7; 1 8 0; 1 0 0");
    main(1, "b=a;A[b]=b;", 1, "1 1 0; 4 0 0");
    main(1, "a=b;b=c;!a;!b;", 0, "1 0 1; 1 1 2; 6 0; 6 1");
    main(1, "!5;!5;", 1, "0 7 5; 6 7; 0 8 5; 6 7");
    part(1, "P{a=x;!x;}", 1, 0, "1 0 6; 6 0");
  }

  private static void dead() {
    main(2, "a=1;b=2;!b;", 2, "0 8 2; 1 1 8; 6 1");
    main(2, "a=1;", 2, "");
    main(2, "a=1/b;", 1, "0 7 1; 2 8 7 1 3");
    main(2, "a=A[9];", 1, "0 7 9; 3 8 7");
    main(2, "?a;", 0, "5 0");
    main(2, "A[a]=b;", 0, "4 0 1");
    part(2, "P{a=1;a=2;}", 2, 0, "0 8 2; 1 0 8");
    part(2, "P{f=x;}", 0, 0, "1 5 6");
    main(2, "P{}a=1;P(b);a=2;", 2, "0 7 1; 1 0 7; 7 1 0");
    main(2, "Wa<3{b=b+1;a=a+1;}", 3,
        "10; 0 7 3; 2 8 0 7 4; 11 8; 0 11 1; 2 12 0 11 0; 1 0 12; 12");
    main(2, "Wa<3{!b;b=a;a=a+1;}", 0,
        "10; 0 7 3; 2 8 0 7 4; 11 8; 6 1; 1 1 0; 0 9 1; 2 10 0 9 0; 1 0 10; 12");
    main(2, "a=3;Wa{}", 0, "0 7 3; 1 0 7; 10; 11 0; 12");
    main(2, "Wa{b=c;c=b;}", 2, "10; 11 0; 12");
    main(2, "?a;b=1;Ia{b=2;}{}!b;", 0, "5 0; 0 7 1; 1 1 7; 8 0; 0 8 2; 1 1 8; 9; 12; 6 1");
    main(2, "?a;b=1;Ia{b=2;}{b=3;}!b;", 2, "5 0; 8 0; 0 8 2; 1 1 8; 9; 0 9 3; 1 1 9; 12; 6 1");
    main(2, "Ia{b=1;}{!b;}", 2, "8 0; 9; 6 1; 12");
  }

  private static void hoist() {
    main(3, "Wb<2+3{a=a+b;b=b+1;}", 3, "0 7 2; 0 8 3; 2 9 7 8 0; 10; 2 10 1 9 4; 11 10; "
        + "2 11 0 1 0; 1 0 11; 0 12 1; 2 13 1 12 0; 1 1 13; 12");
    main(3, "Wa<3{Wb<4{b=b+1;}a=a+1;}", 2, "0 7 3; 10; 2 8 0 7 4; 11 8; 0 9 4; 10; 2 10 1 9 4; 11 10; "
        + "0 11 1; 2 12 1 11 0; 1 1 12; 12; 0 13 1; 2 14 0 13 0; 1 0 14; 12");
    main(3, "Wa<8/2{a=a+1;}", 2, "0 7 8; 0 8 2; 10; 2 9 7 8 3; 2 10 0 9 4; 11 10; 0 11 1; "
        + "2 12 0 11 0; 1 0 12; 12");
    main(3, "WA[1]{A[1]=0;}", 1, "0 7 1; 10; 3 8 7; 11 8; 0 9 1; 0 10 0; 4 9 10; 12");
    main(3, "P{}Wa<b+1{P(c);}", 1, "0 7 1; 10; 2 8 1 7 0; 2 9 0 8 4; 11 9; 7 2 0; 12");
    main(3, "Wa<b+1{a=a+c;}", 2, "0 7 1; 2 8 1 7 0; 10; 2 9 0 8 4; 11 9; 2 10 0 2 0; 1 0 10; 12");
    main(3, "W1{}!2;", 1, "0 7 1; 10; 11 7; 12; 0 8 2; 6 8");
    part(3, "P{W2<x{}}", 2, 0, "0 7 2; 2 8 7 6 4; 10; 11 8; 12");
    PassChain x = Check.program("Wa<3{b=1;}");
    Check.due("the CONST of the body writes 7, too", () -> Check.of(x.touch(3, 4, 0, 7)), 1);
    Check.due("so that none goes", x.pass(3), 0);
    PassChain y = Check.program("Wa<3+1{b=2;}");
    Check.due("all four go, as a is not written", y.pass(3), 4);
    PassChain z = Check.program("Wa<3+1{a=2;}");
    Check.due("three go, as a is written", z.pass(3), 3);
  }

  private static void inline() {
    PassChain x = Check.program("P{a=x+1;}P(5);!a;");
    Check.due("pass 4", x.pass(4), 1);
    Check.due("rows", Check.rows(x, 3), "0 7 5; 1 8 7; 0 9 1; 2 10 8 9 0; 1 0 10; 6 0");
    Check.due("registers", x.size(3, 1), 11);
    Check.due("the procedure stays", Check.rows(x, 0), "0 7 1; 2 8 6 7 0; 1 0 8");
    Check.due("no more CALLs", x.pass(4), 0);
    PassChain y = Check.program("P{!x;}Q{P(x);}Q(1);");
    Check.due("pass 4 over two", y.pass(4), 2);
    Check.due("rows of Q", Check.rows(y, 1), "1 7 6; 6 7");
    Check.due("rows of the main part", Check.rows(y, 3), "0 7 1; 1 8 7; 1 9 8; 6 9");
    Check.due("registers of Q", y.size(1, 1), 8);
    Check.due("registers of the main part", y.size(3, 1), 10);
    PassChain z = Check.program("P{A[x]=a;?b;Ix{!A[x];}{}Wx{}}P(c);P(c);");
    Check.due("pass 4 of all items", z.pass(4), 2);
    Check.due("rows of all items", Check.rows(z, 3), "1 7 2; 4 7 0; 5 1; 8 7; 3 8 7; 6 8; 9; 12; 10; 11 7; 12; "
        + "1 9 2; 4 9 0; 5 1; 8 9; 3 10 9; 6 10; 9; 12; 10; 11 9; 12");
    Check.due("registers of all items", z.size(3, 1), 11);
  }

  private static void inlineUpToTheLimit() {
    String ones = "+1".repeat(13);
    PassChain x = Check.program("P{!1" + ones + ";}P(a);P(a);");
    Check.due("28 more fit once", x.pass(4), 1);
    Check.due("registers", x.size(3, 1), 35);
    Check.due("the latter CALL is left", x.item(3, x.size(3, 0) - 1, 0), 7);
    PassChain y = Check.program("P{!1" + "+1".repeat(25) + ";!1;}P(a);");
    Check.due("60 fit", y.pass(4), 1);
    Check.due("60 registers", y.size(3, 1), 60);
    PassChain z = Check.program("P{!1" + "+1".repeat(26) + ";}Q{P(x);}Q(1);");
    Check.due("P has 60", z.size(0, 1), 60);
    Check.due("only the CALL of Q goes", z.pass(4), 1);
    Check.due("that of P stays in Q", Check.rows(z, 1), "7 6 0");
    Check.due("and among what was put in", Check.rows(z, 3), "0 7 1; 1 8 7; 7 8 0");
  }

  private static void whatDoesNotStay() {
    PassChain x = Check.program("P{!-x;}?c;Wc{P(c);}");
    Check.due("8 is 0 when P begins, as 7 is", () -> Check.of(x.touch(0, 1, 1, 8)), 1);
    String rows = Check.rows(x, 3);
    Check.due("but not in a loop", x.pass(4), -1);
    Check.due("nothing changes", Check.rows(x, 3), rows);
    Check.due("nor do the registers", x.size(3, 1), 7);
    Check.due("changes that stayed", x.count(6), 1);
    Check.due("changes that did not", x.count(7), 1);
    Check.due("other passes do", x.pass(2), 1);
    Check.due("two stayed", x.count(6), 2);
    PassChain y = Check.program("P{!-x;}?c;P(c);");
    Check.due("8 for 7 without a loop", () -> Check.of(y.touch(0, 1, 1, 8)), 1);
    Check.due("is inlined", y.pass(4), 1);
  }

  private static void wrong() {
    PassChain x = Check.program("!1+1;");
    int[] kinds = {-1, 5, 6, Integer.MIN_VALUE, Integer.MAX_VALUE};
    for (int kind : kinds) {
      Check.due("pass " + kind, () -> x.pass(kind), Check.ARGUMENT);
    }
    Check.due("none stayed", x.count(6), 0);
    Check.due("and none did not", x.count(7), 0);
    for (int kind = 0; kind < 5; kind++) {
      x.pass(kind);
    }
    Check.due("five stayed, whatever they changed", x.count(6), 5);
  }
}
