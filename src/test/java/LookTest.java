/** Promises 8, 9 and 10: size, item and code. */
public final class LookTest {
  private static final int[] FAR = {Integer.MIN_VALUE, -1, 1000000, Integer.MAX_VALUE};

  public static void main(String[] args) {
    size();
    item();
    code();
    codeOfAllItems();
    codeOfWays();
    Check.end();
  }

  private static void size() {
    PassChain x = Check.program("P{!1+x;}Q{}!a;");
    int[][] sizes = {{3, 9}, {0, 7}, {-1, -1}, {1, 7}};
    for (int p = 0; p < 4; p++) {
      for (int what = 0; what < 2; what++) {
        Check.due("size " + p + " " + what, x.size(p, what), sizes[p][what]);
      }
      Check.due("size " + p + " 2", x.size(p, 2), -1);
      for (int far : FAR) {
        Check.due("size " + p + " " + far, x.size(p, far), -1);
        Check.due("size of " + far, x.size(far, 0), -1);
      }
    }
    Check.due("size of 4", x.size(4, 0), -1);
    x.pass(2);
    Check.due("registers stay where items went", x.size(0, 1), 9);
  }

  private static void item() {
    PassChain x = Check.program("P{?a;}a=-b/3;A[a]=A[b];P(c);!a;Ia{}{}Wb{}");
    Check.due("rows", Check.rows(x, 3), "0 7 0; 2 8 7 1 1; 0 9 3; 2 10 8 9 3; 1 0 10; 3 11 1; 4 0 11; 7 2 0; "
        + "6 0; 8 0; 9; 12; 10; 11 1; 12");
    int[] numbers = {2, 4, 2, 4, 2, 2, 2, 2, 1, 1, 0, 0, 0, 1, 0};
    for (int k = 0; k < numbers.length; k++) {
      int item = k;
      Check.due("the last number of item " + k,
          Check.of(Check.answerOf(() -> x.item(3, item, numbers[item])) == Check.NO_ELEMENT), 0);
      Check.due("none behind it of item " + k, () -> x.item(3, item, numbers[item] + 1), Check.NO_ELEMENT);
      for (int far : FAR) {
        Check.due("number " + far + " of item " + k, () -> x.item(3, item, far), Check.NO_ELEMENT);
      }
    }
    Check.due("an item of P", () -> x.item(0, 0, 0), 5);
    Check.due("its register", () -> x.item(0, 0, 1), 0);
    Check.due("no more in P", () -> x.item(0, 1, 0), Check.NO_ELEMENT);
    Check.due("no more in the main part", () -> x.item(3, 15, 0), Check.NO_ELEMENT);
    int[] parts = {-1, 1, 2, 4};
    for (int part : parts) {
      Check.due("no part " + part, () -> x.item(part, 0, 0), Check.NO_ELEMENT);
    }
    for (int far : FAR) {
      Check.due("no part " + far, () -> x.item(far, 0, 0), Check.NO_ELEMENT);
      Check.due("no item " + far, () -> x.item(3, far, 0), Check.NO_ELEMENT);
    }
  }

  private static void code() {
    PassChain x = Check.program("!5;");
    Check.due("code", Check.code(x), "0 5; 2 7; 1 7; 12 0; 17 0");
    Check.due("letters", x.count(2), 5);
    Check.due("no letter 5", () -> x.code(5, 0), Check.NO_ELEMENT);
    Check.due("no number 2", () -> x.code(0, 2), Check.NO_ELEMENT);
    for (int far : FAR) {
      Check.due("no letter " + far, () -> x.code(far, 0), Check.NO_ELEMENT);
      Check.due("no number " + far, () -> x.code(0, far), Check.NO_ELEMENT);
    }
    Check.due("a touch", () -> Check.of(x.touch(3, 1, 0, 7)), 1);
    Check.compile(x, "a=2+3;!a;");
    Check.due("code then", Check.code(x), "0 2; 2 7; 0 3; 2 8; 1 7; 1 8; 3 0; 2 9; 1 9; 2 0; 1 0; 12 0; 17 0");
    x.pass(0);
    Check.due("of the rows as they are now", Check.code(x),
        "0 2; 2 7; 0 3; 2 8; 0 5; 2 9; 0 5; 2 0; 1 0; 12 0; 17 0");
    Check.due("a swap", () -> Check.of(x.swap(3, 0)), 1);
    Check.due("behind it", Check.code(x), "0 3; 2 8; 0 2; 2 7; 0 5; 2 9; 0 5; 2 0; 1 0; 12 0; 17 0");
    x.restore();
    Check.due("letters as compiled", x.count(2), 13);
  }

  private static void codeOfAllItems() {
    PassChain x = Check.program("?a;A[b]=c;!A[d]+a;");
    Check.due("code", Check.code(x),
        "11 0; 2 0; 1 1; 1 2; 10 0; 1 3; 9 0; 2 7; 1 7; 1 0; 3 0; 2 8; 1 8; 12 0; 17 0");
    char[] operators = {'+', '-', '*', '/', '<', '='};
    for (int o = 0; o < 6; o++) {
      PassChain y = Check.program("!a" + operators[o] + "b;");
      Check.due("code of " + operators[o], Check.code(y),
          "1 0; 1 1; " + (3 + o) + " 0; 2 7; 1 7; 12 0; 17 0");
    }
  }

  private static void codeOfWays() {
    PassChain x = Check.program("P{!x;}Ia{P(1);}{}Wb{b=0;}");
    Check.due("code", Check.code(x), "1 0; 13 7; 0 1; 2 7; 1 7; 15 15; 14 7; 1 1; 13 14; 0 0; 2 8; 1 8; 2 1; "
        + "14 7; 17 0; 2 6; 1 6; 12 0; 16 0");
    PassChain y = Check.program("Wa<1{Ib{!c;}{!d;}}");
    Check.due("code of an IF in a WHILE", Check.code(y),
        "0 1; 2 7; 1 0; 1 7; 7 0; 2 8; 1 8; 13 16; 1 1; 13 13; 1 2; 12 0; 14 15; 1 3; 12 0; 14 0; 17 0");
    PassChain z = Check.program("P{}Q{P(x);}R{Q(x);P(x);}R(a);");
    Check.due("code of procedures", Check.code(z),
        "1 0; 15 9; 17 0; 2 6; 16 0; 2 6; 1 6; 15 3; 16 0; 2 6; 1 6; 15 5; 1 6; 15 3; 16 0");
  }
}
