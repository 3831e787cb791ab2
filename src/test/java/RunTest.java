/** Promises 11 to 15: feed, dry, run, out and count. */
public final class RunTest {
  public static void main(String[] args) {
    feedAndDry();
    ends();
    fuel();
    tooMuchPrinted();
    arithmetic();
    procedures();
    eachRunBeginsAnew();
    out();
    count();
    Check.end();
  }

  private static void prints(String text, String want, int... input) {
    PassChain x = Check.program(text);
    for (int v : input) {
      x.feed(v);
    }
    Check.due("run of " + text, x.run(2000), 0);
    Check.due("printed by " + text, Check.printed(x), want);
  }

  private static void feedAndDry() {
    PassChain x = Check.program("?a;?b;!a;!b;");
    for (int i = 0; i < 20; i++) {
      Check.due("feed " + i, Check.of(x.feed(100 + i)), 1);
      Check.due("inputs", x.count(3), i + 1);
    }
    Check.due("a 21st", Check.of(x.feed(7)), 0);
    Check.due("inputs then", x.count(3), 20);
    x.run(100);
    Check.due("the first two", Check.printed(x), "100 101");
    x.run(100);
    Check.due("from the first on again", Check.printed(x), "100 101");
    Check.due("inputs stay", x.count(3), 20);
    x.dry();
    Check.due("no inputs", x.count(3), 0);
    Check.due("what was printed stays", Check.printed(x), "100 101");
    x.run(100);
    Check.due("0 when there is none", Check.printed(x), "0 0");
    x.dry();
    Check.due("feed again", Check.of(x.feed(Integer.MIN_VALUE)), 1);
    x.run(100);
    Check.due("one, then none", Check.printed(x), "-2147483648 0");
    prints("Wa<21{?b;a=a+1;c=c+b;}!c;", "20", 1, 1, 1, 1, 1, 1, 1, 1, 1, 1, 1, 1, 1, 1, 1, 1, 1, 1, 1, 1);
  }

  private static void end(String text, int end, int steps, String printed) {
    PassChain x = Check.program(text);
    Check.due("end of " + text, x.run(2000), end);
    Check.due("steps of " + text, x.count(5), steps);
    Check.due("printed by " + text, Check.printed(x), printed);
    Check.due("how many " + text + " printed", x.count(4), printed.isEmpty() ? 0 : printed.split(" ").length);
  }

  private static void ends() {
    end("", 0, 1, "");
    end("!1;", 0, 5, "1");
    end("!3;!1/0;!2;", 1, 11, "3");
    end("!A[8];", 2, 4, "");
    end("!A[7];", 0, 8, "0");
    end("A[-1]=5;", 2, 13, "");
    end("A[8]=1;", 2, 7, "");
    end("A[7]=1;!A[7];", 0, 15, "1");
    end("W1{}", 3, 2000, "");
    end("Ia{!1;}{!2;}", 0, 7, "2");
    end("P{!x;}P(a);", 0, 7, "0");
  }

  private static void fuel() {
    PassChain x = Check.program("!1;");
    int[] ends = {3, 3, 3, 3, 0, 0};
    for (int fuel = 1; fuel <= 6; fuel++) {
      Check.due("run " + fuel, x.run(fuel), ends[fuel - 1]);
      Check.due("steps of run " + fuel, x.count(5), Math.min(fuel, 5));
      Check.due("printed by run " + fuel, x.count(4), fuel < 4 ? 0 : 1);
    }
    int[] wrong = {0, -1, 2001, Integer.MIN_VALUE, Integer.MAX_VALUE};
    for (int fuel : wrong) {
      Check.due("run " + fuel, () -> x.run(fuel), Check.ARGUMENT);
    }
    Check.due("the latest run stays", x.count(5), 5);
    Check.due("with what it printed", Check.printed(x), "1");
    PassChain y = Check.program("!1/0;");
    Check.due("what traps is a step", y.run(7), 1);
    Check.due("which may be out of fuel", y.run(6), 3);
    Check.due("steps then", y.count(5), 6);
  }

  private static void tooMuchPrinted() {
    // NUMBER, PUT, GET, ZERO, GET, SHOW and GO each time.
    PassChain x = Check.program("W1{!a;}");
    Check.due("a 41st", x.run(2000), 4);
    Check.due("is no step", x.count(5), 40 * 7 + 5);
    Check.due("nor printed", x.count(4), 40);
    Check.due("without fuel for it", x.run(285), 3);
    Check.due("with fuel for it", x.run(286), 4);
    Check.due("steps", x.count(5), 285);
    Check.due("the 40th", () -> x.out(39), 0);
    Check.due("no 41st", () -> x.out(40), Check.NO_ELEMENT);
    PassChain y = Check.program("Wa<40{!a;a=a+1;}");
    Check.due("40 are not too many", y.run(2000), 0);
    Check.due("40", y.count(4), 40);
  }

  private static void arithmetic() {
    prints("!7/2;!(-7)/2;!7/-2;!-7/-2;", "3 -3 -3 3");
    prints("!65536*32768;!65536*32768/-1;!65536*32768-1;!65536*65536;", "-2147483648 -2147483648 2147483647 0");
    prints("!2<3;!3<2;!3<3;!3=3;!2=3;!-1<0;", "1 0 0 1 0 1");
    prints("!2+3*4;!(2+3)*4;!10-3-2;!100/5/2;!2*3<7;", "14 20 5 10 1");
    prints("a=3;b=a;a=4;!a;!b;", "4 3");
    prints("Wa<5{b=b+a;a=a+1;}!b;", "10");
    prints("A[1]=5;A[A[1]-3]=7;!A[2]+A[1];", "12");
    prints("?a;Ia<3{!1;}{!2;}Ia{!3;}{!4;}", "1 3", 2);
    prints("?a;Ia<3{!1;}{!2;}Ia{!3;}{!4;}", "2 3", 3);
    prints("?a;Ia<3{!1;}{!2;}Ia{!3;}{!4;}", "1 4");
  }

  private static void procedures() {
    prints("P{!x;}Q{P(x+1);!x;}Q(5);", "6 5");
    prints("P{a=a+x;}Q{P(x);P(x);}R{Q(x);Q(x);}R(3);!a;", "12");
    prints("P{A[0]=A[0]+x;}P(3);P(4);!A[0];", "7");
    prints("P{b=x;}P(9);!b;", "9");
    PassChain x = Check.program("P{!0-x;}P(1);P(2);");
    Check.due("8 for 7", () -> Check.of(x.touch(0, 1, 1, 8)), 1);
    x.run(100);
    Check.due("8 is 0 each time", Check.printed(x), "-1 -2");
    PassChain y = Check.program("P{a=x;}!b;P(5);!a;");
    Check.due("6 is 0 in the main part", () -> Check.of(y.touch(3, 0, 0, 6)), 1);
    y.run(100);
    Check.due("prints", Check.printed(y), "0 5");
  }

  private static void eachRunBeginsAnew() {
    PassChain x = Check.program("!a;!A[0];a=5;A[0]=6;!a;!A[0];");
    for (int i = 0; i < 3; i++) {
      x.run(100);
      Check.due("run " + i, Check.printed(x), "0 0 5 6");
    }
    PassChain y = Check.program("P{!x;W1{}}P(5);");
    for (int i = 0; i < 3; i++) {
      Check.due("a run that ends in a procedure", y.run(30), 3);
      Check.due("prints", Check.printed(y), "5");
    }
  }

  private static void out() {
    PassChain x = Check.program("!11;!22;");
    Check.due("out before a run", () -> x.out(0), Check.NO_ELEMENT);
    x.run(100);
    Check.due("out 0", () -> x.out(0), 11);
    Check.due("out 1", () -> x.out(1), 22);
    int[] wrong = {2, -1, 40, 41, Integer.MIN_VALUE, Integer.MAX_VALUE};
    for (int k : wrong) {
      Check.due("out " + k, () -> x.out(k), Check.NO_ELEMENT);
    }
    x.run(5);
    Check.due("out 0 of the latest run", () -> x.out(0), 11);
    Check.due("out 1 of the latest run", () -> x.out(1), Check.NO_ELEMENT);
  }

  private static void count() {
    PassChain x = Check.program("P{}Q{}!1;");
    Check.write(x, "abc");
    x.feed(4);
    x.feed(5);
    x.run(100);
    x.pass(2);
    x.pass(3);
    Check.due("a touch that does not stay", () -> Check.of(x.touch(3, 0, 1, 2)), 0);
    int[] counts = {3, 2, 9, 2, 1, 5, 2, 1};
    for (int what = 0; what < counts.length; what++) {
      Check.due("count " + what, x.count(what), counts[what]);
    }
    int[] wrong = {-1, 8, Integer.MIN_VALUE, Integer.MAX_VALUE};
    for (int what : wrong) {
      Check.due("count " + what, x.count(what), -1);
    }
  }
}
