/** The walk, as touch, swap and the passes show it (promises 4, 5 and 6). */
public final class WalkTest {
  public static void main(String[] args) {
    divides();
    cells();
    ways();
    waysOfWhiles();
    calls();
    choices();
    circles();
    keptInCircles();
    inputs();
    arrays();
    Check.end();
  }

  /** A touch of the main part of a new program. */
  private static void touch(String text, int k, int which, int v, long want) {
    PassChain x = Check.program(text);
    Check.due(text + ": touch " + k + " " + which + " " + v,
        () -> Check.of(x.touch(3, k, which, v)), want);
  }

  private static void swap(String text, int k, long want) {
    PassChain x = Check.program(text);
    Check.due(text + ": swap " + k, () -> Check.of(x.swap(3, k)), want);
  }

  private static void divides() {
    touch("b=1/2;", 1, 1, 3, 1);
    touch("b=1/2;", 1, 1, 0, 0);
    touch("b=1/0;", 0, 1, 7, 1);
    touch("b=1/0;!2;", 1, 1, 1, 0);
    PassChain x = Check.program("?a;b=1/a;c=2/a;");
    Check.due("the former of two need not say it", () -> Check.of(x.touch(3, 2, 2, 7)), 1);
    Check.due("if the latter does", () -> Check.of(x.touch(3, 5, 2, 9)), 0);
    touch("?a;b=1/a;c=2/a;", 5, 2, 9, 1);
    touch("?a;b=1/a;", 2, 2, 7, 0);
    touch("?a;b=1/a;", 2, 3, 2, 0);
    touch("?a;b=a/1;", 2, 3, 2, 1);
    swap("?a;b=1/a;!2;", 3, 1);
    swap("?a;?b;c=a/b;d=b/a;", 3, 1);
    swap("?a;!a/1;!a/2;", 3, 1);
    swap("?a;?b;!a/b;!2;", 3, 1);
  }

  private static void cells() {
    touch("b=A[3];", 0, 1, 4, 1);
    touch("b=A[3];", 0, 1, 7, 1);
    touch("b=A[3];", 0, 1, 8, 0);
    touch("b=A[3];", 0, 1, -1, 0);
    touch("b=A[8];", 0, 1, 9, 0);
    touch("b=A[8];", 0, 1, 0, 0);
    touch("?a;b=A[a];c=A[a];", 3, 1, 5, 1);
    touch("?a;b=A[a];", 1, 1, 5, 0);
    touch("?a;A[a]=1;b=A[a];", 3, 1, 5, 1);
    touch("?a;b=A[a];A[a]=1;", 4, 0, 5, 1);
    touch("?a;b=1/a;c=A[a];", 4, 1, 5, 0);
    touch("?a;c=A[a];b=1/a;", 4, 2, 7, 0);
    touch("A[9]=1;A[9]=2;", 3, 1, 5, 1);
    touch("A[9]=1;A[9]=2;", 3, 1, 8, 0);
    touch("A[9]=1;A[9]=2;!A[9];", 3, 1, 1, 0);
  }

  private static void ways() {
    PassChain x = Check.program("?a;Ia{b=1/a;}{}c=2/a;");
    Check.due("the rows", Check.rows(x, 3),
        "5 0; 8 0; 0 7 1; 2 8 7 0 3; 1 1 8; 9; 12; 0 9 2; 2 10 9 0 3; 1 2 10");
    Check.due("what was said in an IF is not on the way behind it",
        () -> Check.of(x.touch(3, 8, 2, 9)), 0);
    touch("?a;Ia{b=1/a;}{c=1/a;}", 7, 2, 9, 0);
    touch("?a;I1{b=1/a;}{}c=2/a;", 9, 2, 9, 0);
    PassChain y = Check.program("?a;I1{b=1/a;}{}c=2/a;");
    Check.due("rows with a number", Check.rows(y, 3),
        "5 0; 0 7 1; 8 7; 0 8 1; 2 9 8 0 3; 1 1 9; 9; 12; 0 10 2; 2 11 10 0 3; 1 2 11");
    Check.due("but it is, if the IF is of a number", () -> Check.of(y.touch(3, 9, 2, 10)), 1);
    touch("?a;b=1/a;Ia{c=1/a;}{}", 6, 2, 9, 1);
    touch("?a;b=1/a;Ia{}{c=1/a;}", 7, 2, 9, 1);
    touch("?a;Ia{!1;}{!1;}", 3, 0, 6, 0);
    touch("?a;Ia{}{}", 1, 0, 1, 0);
    touch("?a;b=a;Ia{}{}", 2, 0, 1, 1);
  }

  private static void waysOfWhiles() {
    touch("?a;Wa{b=1/a;}c=2/a;", 8, 2, 9, 0);
    touch("?a;W1/a{}c=2/a;", 7, 2, 9, 0);
    touch("?a;W1/a{b=2/a;}", 6, 2, 9, 1);
    touch("?a;b=1/a;Wa{c=2/a;}", 7, 2, 9, 1);
    touch("?a;Wa{}", 2, 0, 1, 0);
    touch("?a;b=a;Wa{}", 3, 0, 1, 1);
    touch("W1{}", 1, 1, 2, 0);
    touch("W0{!1;}", 3, 1, 2, 0);
  }

  private static void calls() {
    touch("P{!x;}P(1);", 0, 1, 2, 0);
    touch("P{!a;}P(1);", 0, 1, 2, 1);
    touch("P{a=1/x;}?b;P(b);c=2/b;", 3, 2, 7, 1);
    touch("P{b=2;}a=1;P(0);!a;!b;", 4, 0, 7, 1);
    touch("P{a=2;}a=1;P(0);!a;", 4, 0, 7, 0);
    PassChain x = Check.program("P{!1-x;}P(a);P(a);");
    Check.due("each time P begins 8 is 0", () -> Check.of(x.touch(0, 1, 1, 8)), 0);
    PassChain y = Check.program("P{!0-x;}P(1);P(1);");
    Check.due("as 7 is", () -> Check.of(y.touch(0, 1, 1, 8)), 1);
    PassChain z = Check.program("P{A[0]=x;}P(3);!A[0];");
    Check.due("the array is the caller's, too", () -> Check.of(z.touch(3, 0, 1, 4)), 0);
  }

  private static void choices() {
    touch("?a;Ia{b=1;}{b=2;}!b;", 2, 1, 2, 0);
    touch("?a;Ia{b=1;}{b=2;}!c;", 2, 1, 2, 1);
    touch("c=1;?a;Ia{b=1;}{b=1;}!b;", 10, 0, 2, 1);
    touch("?a;Ia{b=1;}{c=1;}!b;", 8, 0, 2, 0);
    touch("?a;Ia{b=1;c=1;}{}!b;", 8, 0, 2, 1);
    touch("?a;?b;Ia{c=1;}{}Ib{d=1;}{}!c;", 12, 0, 3, 0);
    touch("?a;?b;!a+b;", 2, 1, 1, 0);
    touch("?a;b=a+1;c=a+1;!b;", 7, 0, 2, 1);
    touch("?a;!a-a;!0;", 2, 0, 8, 0);
  }

  private static void circles() {
    touch("a=1;Wa<3{a=a+1;}!a;", 0, 1, 2, 0);
    touch("a=1;Wa<3{a=a+1;}!a;", 3, 1, 4, 0);
    touch("a=1;Wa<3{a=a+1;}!a;", 6, 1, 2, 0);
    touch("a=1;Wa<3{a=a+1;}!a;", 7, 3, 1, 0);
    touch("b=1;Wa<3{b=b+1;a=a+1;}", 0, 1, 2, 1);
    touch("b=1;Wa<3{b=b+1;a=a+1;}", 6, 1, 2, 1);
    touch("b=1;Wa<3{b=b+1;a=a+1;}!b;", 6, 1, 2, 0);
    touch("b=5;Wa<3{a=a+b;b=b+1;}!a;", 0, 1, 6, 0);
    touch("b=5;Wa<3{a=a+b;b=b+1;}!a;", 8, 1, 2, 0);
    touch("b=5;c=7;Wa<3{a=a+b;b=c;c=c+1;}!a;", 2, 1, 8, 0);
    touch("b=5;c=7;Wa<3{a=a+1;b=c;c=c+1;}!a;", 2, 1, 8, 1);
    touch("?a;Wa{a=a-1;b=b+1;}!a;!b;", 10, 0, 1, 0);
    PassChain x = Check.program("a=1;b=1;Wa<9{a=a+1;b=b+1;}!a;");
    Check.due("b is not a, though it goes the same way", () -> Check.of(x.touch(3, 15, 0, 1)), 0);
  }

  private static void keptInCircles() {
    touch("b=5;Wa<3{a=a+b;}", 6, 2, 7, 1);
    touch("b=5;Wa<3{a=a+b;b=5;}", 6, 2, 7, 0);
    touch("b=5;Wa<3{a=a+b;b=b;}", 6, 2, 7, 1);
    // c is 0, so that d is written only as long as c circles; so f is 0 for one more round.
    touch("Wa<3{Ic{d=1;}{}Id{f=1;}{}a=a+1;}!f;", 18, 0, 4, 1);
    touch("Wa<3{Ie{d=1;}{}Id{c=1;}{}Ic{b=1;}{}a=a+1;}!b;", 23, 0, 5, 1);
    touch("Wa<3{Ic{d=1;}{}c=1;a=a+1;}!d;", 15, 0, 5, 0);
    // The pass takes a round from the former WHILE; neither WHILEs nor INPUTs are counted by rounds.
    PassChain x = Check.program("Wa<2{Ic{d=1;}{}?b;a=a+1;}?e;We{e=e-1;}!e;");
    Check.due("CONSTANTS in a WHILE ahead of a WHILE", x.pass(0), 1);
    PassChain y = Check.program("Wa<2{Ic{Wd{d=1;}}{}Wb<3{b=b+1;?f;}a=a+1;}!b;?e;We{e=e-1;}!e;");
    Check.due("and of one inside", y.pass(0), 1);
  }

  private static void inputs() {
    swap("?a;?b;!a;", 0, 0);
    swap("?a;?b;", 0, 1);
    swap("?a;!1;!2;", 0, 1);
    swap("?a;!b;", 0, 0);
    touch("?a;?b;!a;", 2, 0, 1, 0);
    touch("?c;Ic{?a;}{?b;}!a;!b;", 2, 0, 1, 0);
    touch("?a;?a;!a;", 0, 0, 1, 1);
  }

  private static void arrays() {
    touch("A[0]=1;!A[0];", 1, 1, 2, 0);
    touch("A[0]=1;A[0]=2;", 1, 1, 2, 1);
    touch("A[0]=1;A[0]=2;!A[0];", 1, 1, 2, 0);
    touch("A[0]=1;A[0]=2;", 0, 1, 8, 0);
    touch("!A[0];A[0]=1;", 3, 1, 2, 1);
    touch("Wa<3{!A[a];a=a+1;}A[0]=1;", 11, 1, 2, 1);
    touch("A[0]=1;Wa<3{!A[a];a=a+1;}", 1, 1, 2, 0);
    touch("Wa<3{!A[a];A[0]=1;a=a+1;}", 7, 1, 2, 0);
    touch("?a;Ia{A[0]=1;}{}!A[0];", 3, 1, 2, 0);
    touch("?a;Ia{A[0]=1;}{A[0]=1;}!A[1];", 3, 1, 2, 0);
    swap("A[0]=a;A[1]=b;", 1, 1);
    swap("A[0]=a;!A[1];", 1, 1);
  }
}
