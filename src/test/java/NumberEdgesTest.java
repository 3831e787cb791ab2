/** The edges of numbers, cells and input, where they are run, made by the pass CONSTANTS and by the walk. */
public final class NumberEdgesTest {
  private static final int LEAST = Integer.MIN_VALUE;
  private static final int GREATEST = Integer.MAX_VALUE;
  private static final int[] NUMBERS = {LEAST, LEAST + 1, -65536, -46341, -7, -2, -1, 0, 1, 2, 7, 46341, 65536,
    GREATEST - 1, GREATEST};
  private static final String OPERATORS = "+-*/<=";
  private static final int DIVIDE = 3;

  public static void main(String[] args) {
    told();
    for (int s : NUMBERS) {
      for (int t : NUMBERS) {
        for (int o = 0; o < 6; o++) {
          run(s, o, t);
          pass(s, o, t);
          walk(s, o, t);
        }
      }
    }
    minus();
    divisionByZero();
    cellsOfRuns();
    cellsOfWalks();
    cellsAreApart();
    inputAtItsEnd();
    zeroAtFirst();
    Check.end();
  }

  private static int due(int s, int o, int t) {
    long a = s;
    long b = t;
    switch (o) {
      case 0:
        return (int) (a + b);
      case 1:
        return (int) (a - b);
      case 2:
        return (int) (a * b);
      case DIVIDE:
        return (int) (a / b);
      case 4:
        return a < b ? 1 : 0;
      default:
        return a == b ? 1 : 0;
    }
  }

  /** The sentences of the document themselves. */
  private static void told() {
    Check.due("+ wraps", due(GREATEST, 0, 1), LEAST);
    Check.due("- wraps", due(LEAST, 1, 1), GREATEST);
    Check.due("* wraps", due(65536, 2, 65536), 0);
    Check.due("-2^31 / -1", due(LEAST, DIVIDE, -1), LEAST);
    Check.due("/ goes towards 0", due(-7, DIVIDE, 2), -3);
    Check.due("so it does below", due(7, DIVIDE, -2), -3);
  }

  private static String told(int s, int o, int t) {
    return s + " " + OPERATORS.charAt(o) + " " + t;
  }

  private static void run(int s, int o, int t) {
    PassChain x = Check.program("?a;?b;!c;!a" + OPERATORS.charAt(o) + "b;");
    x.feed(s);
    x.feed(t);
    boolean traps = o == DIVIDE && t == 0;
    Check.due("run of " + told(s, o, t), x.run(2000), traps ? 1 : 0);
    // READ PUT READ PUT GET SHOW GET GET o, and PUT GET SHOW HALT.
    Check.due("steps of " + told(s, o, t), x.count(5), traps ? 9 : 13);
    Check.due("printed by " + told(s, o, t), Check.printed(x), traps ? "0" : "0 " + due(s, o, t));
  }

  /** Nobody calls P, so that by hand it becomes whatever is wanted. */
  private static void pass(int s, int o, int t) {
    PassChain x = Check.program("P{!1+2;}");
    boolean all = x.touch(0, 0, 1, s) && x.touch(0, 1, 1, t) && x.touch(0, 2, 3, o);
    Check.due("touches", Check.of(all), 1);
    boolean stays = o == DIVIDE && t == 0;
    Check.due("pass of " + told(s, o, t), x.pass(0), stays ? 0 : 1);
    String work = stays ? "2 9 7 8 3" : "0 9 " + due(s, o, t);
    Check.due("rows of " + told(s, o, t), Check.rows(x, 0), "0 7 " + s + "; 0 8 " + t + "; " + work + "; 6 9");
  }

  /** c, which nobody reads at first, is 1 if what the walk makes of the work is the number b. */
  private static void walk(int s, int o, int t) {
    PassChain x = Check.program("a=1+2;b=3;c=a=b;!1;");
    boolean touched = x.touch(3, 0, 1, s) && x.touch(3, 1, 1, t);
    Check.due("touches", Check.of(touched), 1);
    if (o == DIVIDE && t == 0) {
      Check.due("the walk would say of " + told(s, o, t) + " that it divides", Check.of(x.touch(3, 2, 3, o)), 0);
      return;
    }
    Check.due("the walk says nothing of " + told(s, o, t), Check.of(x.touch(3, 2, 3, o)), 1);
    Check.due("nor of another b", Check.of(x.touch(3, 4, 1, due(s, o, t) ^ 1)), 1);
    Check.due("which is not it", Check.of(x.touch(3, 9, 0, 2)), 0);
    Check.due("nor of the right b", Check.of(x.touch(3, 4, 1, due(s, o, t))), 1);
    Check.due("which is it: " + told(s, o, t), Check.of(x.touch(3, 9, 0, 2)), 1);
  }

  private static void prints(String text, String want, int... input) {
    PassChain x = Check.program(text);
    for (int v : input) {
      x.feed(v);
    }
    Check.due("run of " + text, x.run(2000), 0);
    Check.due("printed by " + text, Check.printed(x), want);
  }

  private static void minus() {
    prints("?a;!-a;!--a;!0-a;", "-2147483648 -2147483648 -2147483648", LEAST);
    prints("?a;!-a;!--a;!-a-1;", "-2147483647 2147483647 -2147483648", GREATEST);
    prints("!-0;!-99999;!99999*99999;", "0 -99999 1409865409");
    prints("!-7/2;!7/-2;!0/5;!0/-5;!1/2;!-1/2;", "-3 -3 0 0 0 0");
  }

  private static void divisionByZero() {
    String[] texts = {"!1/0;", "!0/0;", "!-5/0;", "!a/b;", "!1/(2-2);", "b=1/a;", "A[1/0]=1;", "I1/0{}{}", "W1/0{}"};
    for (String text : texts) {
      PassChain x = Check.program(text + "!7;");
      Check.due("run of " + text, x.run(2000), 1);
      Check.due("printed by " + text, x.count(4), 0);
      Check.due("a run of " + text + " with just the fuel", x.run(x.count(5)), 1);
      int steps = x.count(5);
      Check.due("a run of " + text + " with one less", x.run(steps - 1), 3);
      Check.due("steps then", x.count(5), steps - 1);
    }
    prints("!1/1;!1/-1;", "1 -1");
  }

  private static void cellsOfRuns() {
    int[] cells = {LEAST, -256, -8, -2, -1, 0, 1, 6, 7, 8, 9, 15, 16, 256, GREATEST};
    for (int cell : cells) {
      boolean traps = cell < 0 || cell > 7;
      PassChain load = Check.program("?a;!3;!A[a];");
      load.feed(cell);
      Check.due("LOAD of cell " + cell, load.run(2000), traps ? 2 : 0);
      Check.due("printed then", Check.printed(load), traps ? "3" : "3 0");
      Check.due("steps of LOAD", load.count(5), traps ? 8 : 12);
      PassChain store = Check.program("?a;!3;A[a]=b;!4;");
      store.feed(cell);
      Check.due("STORE into cell " + cell, store.run(2000), traps ? 2 : 0);
      Check.due("printed then", Check.printed(store), traps ? "3" : "3 4");
      Check.due("steps of STORE", store.count(5), traps ? 9 : 14);
      Check.due("with one step less", store.run(store.count(5) - 1), 3);
    }
  }

  private static void cellsOfWalks() {
    int[] cells = {LEAST, -8, -1, 0, 1, 6, 7, 8, 9, GREATEST};
    for (int cell : cells) {
      long isOne = Check.of(cell >= 0 && cell <= 7);
      PassChain load = Check.program("b=A[3];");
      Check.due("LOAD of " + cell + " for 3", Check.of(load.touch(3, 0, 1, cell)), isOne);
      PassChain store = Check.program("A[3]=b;");
      Check.due("STORE into " + cell + " for 3", Check.of(store.touch(3, 0, 1, cell)), isOne);
      PassChain no = Check.program("b=A[8];");
      Check.due("LOAD of " + cell + " for 8", Check.of(no.touch(3, 0, 1, cell)), Check.of(cell == 8));
    }
  }

  private static void cellsAreApart() {
    prints("Wa<8{A[a]=a*a+1;a=a+1;}Wa{a=a-1;!A[a];}", "50 37 26 17 10 5 2 1");
    prints("Wa<8{!A[a];a=a+1;}", "0 0 0 0 0 0 0 0");
    prints("A[7]=5;!A[0];!A[6];!A[7];", "0 0 5");
  }

  private static void inputAtItsEnd() {
    String text = "Wa<4{?b;!b;a=a+1;}";
    String[] due = {"0 0 0 0", "5 0 0 0", "5 6 0 0", "5 6 7 0", "5 6 7 8", "5 6 7 8"};
    for (int n = 0; n <= 5; n++) {
      PassChain x = Check.program(text);
      for (int i = 0; i < n; i++) {
        x.feed(5 + i);
      }
      for (int run = 0; run < 2; run++) {
        x.run(2000);
        Check.due("read of " + n, Check.printed(x), due[n]);
        Check.due("still there", x.count(3), n);
      }
    }
    prints("b=9;?b;!b;", "0");
    prints("Wa<21{?b;Ib{c=c+1;}{!c;}a=a+1;}", "20", 1, 1, 1, 1, 1, 1, 1, 1, 1, 1, 1, 1, 1, 1, 1, 1, 1, 1, 1, 1);
  }

  private static void zeroAtFirst() {
    prints("!a;!b;!c;!d;!e;!f;", "0 0 0 0 0 0");
    PassChain x = Check.program("!a;!1;a=2;");
    Check.due("6 of the main part is 0 in the walk", Check.of(x.touch(3, 0, 0, 6)), 1);
    Check.due("and so is 7 as yet", Check.of(x.touch(3, 0, 0, 7)), 1);
    x.run(100);
    x.run(100);
    Check.due("and in each run", Check.printed(x), "0 1");
    prints("P{!x;!a;!A[0];}P(0);P(3);", "0 0 0 3 0 0");
  }
}
