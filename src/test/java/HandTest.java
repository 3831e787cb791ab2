/** Promises 5, 6 and 7: touch, swap and restore. */
public final class HandTest {
  public static void main(String[] args) {
    touch();
    touchOfOthers();
    touchWrong();
    swap();
    swapWrong();
    restore();
    Check.end();
  }

  private static void touch(String why, PassChain x, int[] at, int v, long want) {
    String rows = Check.rows(x, at[0]);
    int stayed = x.count(6);
    int refused = x.count(7);
    Check.due(why, () -> Check.of(x.touch(at[0], at[1], at[2], v)), want);
    if (want == 1) {
      Check.due(why + ": the number", x.item(at[0], at[1], at[2] + 1), v);
    } else {
      Check.due(why + ": nothing changes", Check.rows(x, at[0]), rows);
    }
    Check.due(why + ": stayed", x.count(6), stayed + (want == 1 ? 1 : 0));
    Check.due(why + ": did not", x.count(7), refused + (want == 0 ? 1 : 0));
  }

  private static int[] at(int part, int k, int which) {
    return new int[] {part, k, which};
  }

  private static void touch() {
    PassChain x = Check.program("a=1;!a;");
    touch("PRINT of what a is", x, at(3, 2, 0), 7, 1);
    touch("a number as it is", x, at(3, 0, 1), 1, 1);
    touch("another number", x, at(3, 0, 1), 2, 0);
    touch("a MOVE that nobody needs", x, at(3, 1, 0), 1, 1);
    touch("a MOVE from elsewhere", x, at(3, 1, 1), 6, 1);
    touch("PRINT of another", x, at(3, 2, 0), 0, 0);
    Check.due("rows then", Check.rows(x, 3), "0 7 1; 1 1 6; 6 7");
    Check.due("and the run", x.run(100), 0);
    Check.due("prints", Check.printed(x), "1");
  }

  private static void touchOfOthers() {
    PassChain x = Check.program("!2+2;");
    touch("2 + 2 is 2 * 2", x, at(3, 2, 3), 2, 1);
    touch("but not 2 - 2", x, at(3, 2, 3), 1, 0);
    touch("2 * 2 of the same", x, at(3, 2, 2), 7, 1);
    touch("nobody needs 8", x, at(3, 1, 1), Integer.MIN_VALUE, 1);
    PassChain y = Check.program("P{!x;}Q{!x;}P(a);Ib{}{}Wc{c=0;}");
    touch("in what nobody calls", y, at(1, 0, 0), 3, 1);
    touch("in what is called, the same", y, at(0, 0, 0), 5, 1);
    touch("a CALL with another 0", y, at(3, 0, 0), 1, 1);
    touch("an IF of another 0", y, at(3, 1, 0), 0, 1);
    touch("a DO of another", y, at(3, 5, 0), 3, 0);
    touch("an INPUT that is not there", y, at(3, 6, 1), 1, 0);
    PassChain z = Check.program("?a;A[a]=b;!A[a];");
    touch("an INPUT elsewhere", z, at(3, 0, 0), 1, 0);
    touch("a STORE of another 0", z, at(3, 1, 1), 2, 1);
    touch("a STORE elsewhere", z, at(3, 1, 0), 1, 0);
    touch("a LOAD from elsewhere", z, at(3, 2, 1), 1, 0);
  }

  private static void wrong(PassChain x, int part, int k, int which, int v) {
    Check.due("touch " + part + " " + k + " " + which + " " + v,
        () -> Check.of(x.touch(part, k, which, v)), Check.ARGUMENT);
  }

  private static void touchWrong() {
    PassChain x = Check.program("P{a=1;}P(2);!a+b;Ia{}{}Wa{}");
    String rows = Check.rows(x, 3);
    int[] parts = {-1, 1, 2, 4, Integer.MIN_VALUE, Integer.MAX_VALUE};
    for (int part : parts) {
      wrong(x, part, 0, 0, 0);
    }
    int[] items = {-1, 10, 11, Integer.MIN_VALUE, Integer.MAX_VALUE};
    for (int k : items) {
      wrong(x, 3, k, 0, 0);
    }
    // How many numbers CONST, CALL, WORK, PRINT, IF, ELSE, END, WHILE, DO and END have.
    int[] numbers = {2, 2, 4, 1, 1, 0, 0, 0, 1, 0};
    for (int k = 0; k < numbers.length; k++) {
      wrong(x, 3, k, -1, 0);
      wrong(x, 3, k, numbers[k], 0);
      wrong(x, 3, k, Integer.MAX_VALUE, 0);
      wrong(x, 3, k, Integer.MIN_VALUE, 0);
      if (numbers[k] > 0) {
        wrong(x, 3, k, 0, -1);
        wrong(x, 3, k, 0, 9);
      }
    }
    wrong(x, 3, 1, 1, 0);
    wrong(x, 3, 2, 2, 9);
    wrong(x, 3, 2, 3, -1);
    wrong(x, 3, 2, 3, 6);
    wrong(x, 0, 0, 0, 8);
    wrong(x, 0, 2, 0, 0);
    Check.due("nothing changed", Check.rows(x, 3), rows);
    Check.due("nor stayed", x.count(6), 0);
    Check.due("nor was looked at", x.count(7), 0);
    touch("the greatest register, as P needs no x", x, at(3, 0, 0), 8, 1);
    touch("the greatest of P", x, at(0, 0, 0), 7, 1);
    wrong(new PassChain(), 3, 0, 0, 0);
    PassChain y = Check.program("P{!1;}P(a);");
    wrong(y, 3, 0, 0, 7);
    y.pass(4);
    Check.due("a register that INLINE made", () -> Check.of(y.touch(3, 1, 0, 7)), 0);
  }

  private static void swap(String why, PassChain x, int part, int k, long want, String rows) {
    Check.due(why, () -> Check.of(x.swap(part, k)), want);
    Check.due(why + ": rows", Check.rows(x, part), rows);
  }

  private static void swap() {
    PassChain x = Check.program("a=1;b=2;!a;!b;");
    swap("MOVE and CONST", x, 3, 1, 1, "0 7 1; 0 8 2; 1 0 7; 1 1 8; 6 0; 6 1");
    swap("two CONSTs", x, 3, 0, 1, "0 8 2; 0 7 1; 1 0 7; 1 1 8; 6 0; 6 1");
    swap("two PRINTs", x, 3, 4, 0, "0 8 2; 0 7 1; 1 0 7; 1 1 8; 6 0; 6 1");
    swap("CONST and its MOVE", x, 3, 1, 0, "0 8 2; 0 7 1; 1 0 7; 1 1 8; 6 0; 6 1");
    Check.due("stayed", x.count(6), 2);
    Check.due("did not", x.count(7), 2);
    PassChain y = Check.program("P{!1;}P(a);b=2;?c;?d;");
    swap("a CALL", y, 3, 0, 1, "0 7 2; 7 0 0; 1 1 7; 5 2; 5 3");
    swap("two INPUTs that nobody prints", y, 3, 3, 1, "0 7 2; 7 0 0; 1 1 7; 5 3; 5 2");
    swap("a CALL and a MOVE", y, 3, 1, 1, "0 7 2; 1 1 7; 7 0 0; 5 3; 5 2");
    swap("a CALL that prints and an INPUT", y, 3, 2, 0, "0 7 2; 1 1 7; 7 0 0; 5 3; 5 2");
    swap("in a procedure", y, 0, 0, 0, "0 7 1; 6 7");
  }

  private static void swapWrong() {
    PassChain x = Check.program("Ia{!1;}{!2;}Wa{b=1;}!b;");
    // 8 0; 0; 6; 9; 0; 6; 12; 10; 11; 0; 1; 12; 6
    int[] wrong = {-1, 0, 2, 3, 5, 6, 7, 8, 10, 11, 12, 13, Integer.MIN_VALUE, Integer.MAX_VALUE};
    for (int k : wrong) {
      Check.due("swap " + k, () -> Check.of(x.swap(3, k)), Check.ARGUMENT);
    }
    int[] parts = {-1, 0, 1, 2, 4, Integer.MIN_VALUE, Integer.MAX_VALUE};
    for (int part : parts) {
      Check.due("swap in " + part, () -> Check.of(x.swap(part, 0)), Check.ARGUMENT);
    }
    Check.due("nothing stayed", x.count(6), 0);
    Check.due("nor was looked at", x.count(7), 0);
    // a is 0, so that the walk does not go over the former items.
    Check.due("swap where nobody goes", () -> Check.of(x.swap(3, 1)), 1);
    Check.due("swap of CONST and PRINT", () -> Check.of(x.swap(3, 4)), 0);
  }

  private static void restore() {
    PassChain x = Check.program("P{!x+1;}I1{P(2);}{}a=3;");
    String main = Check.rows(x, 3);
    String p = Check.rows(x, 0);
    int letters = x.count(2);
    int[] kinds = {0, 4, 1, 2};
    for (int kind : kinds) {
      x.pass(kind);
    }
    Check.due("a touch of P", () -> Check.of(x.touch(0, 0, 1, 77)), 1);
    Check.due("fewer letters", Check.of(x.count(2) != letters), 1);
    x.restore();
    Check.due("the main part", Check.rows(x, 3), main);
    Check.due("the procedure", Check.rows(x, 0), p);
    Check.due("registers", x.size(3, 1), 10);
    Check.due("letters", x.count(2), letters);
    Check.due("counts stay", x.count(6), 5);
    Check.due("as does none", x.count(7), 0);
    Check.compile(x, "!5;");
    x.pass(2);
    x.restore();
    Check.due("the latest program", Check.rows(x, 3), "0 7 5; 6 7");
    Check.due("without procedures", x.count(1), 0);
  }
}
