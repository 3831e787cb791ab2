import java.util.ArrayList;
import java.util.List;

/** The calls of promises 1 to 15 at the bounds of their arguments, and what is left when they are refused. */
public final class CallEdgesTest {
  private static final int LEAST = Integer.MIN_VALUE;
  private static final int GREATEST = Integer.MAX_VALUE;
  private static final int[] NUMBERS_OF = {2, 2, 4, 2, 2, 1, 1, 2, 1, 0, 0, 1, 0};
  private static final int CALL = 7;

  public static void main(String[] args) {
    aNewObject();
    putArguments();
    passArguments();
    passThatDoesNotStay();
    touchArguments();
    touchOfEachNumber();
    touchThatDoesNotStay();
    swapArguments();
    swapThatDoesNotStay();
    restoreLeaves();
    lookArguments();
    feedUpToTheLimit();
    dryLeaves();
    fuelArguments();
    fuelAtEachStep();
    fortyNumbers();
    outArguments();
    countArguments();
    theLastOf512();
    Check.end();
  }

  /** An object that has all: text, procedures, input, numbers printed, and changes of both kinds. */
  private static PassChain busy() {
    PassChain x = Check.program("P{!x+2;}Q{?c;}?a;?b;P(a);!b;Ib{Wd{}}{A[1]=e/2;}");
    x.feed(50);
    x.feed(-60);
    x.run(17);
    x.pass(3);
    x.touch(0, 0, 1, 3);
    x.touch(1, 0, 0, 5);
    x.swap(3, 2);
    Check.write(x, "!3;");
    return x;
  }

  private static void aNewObject() {
    PassChain busy = busy();
    int[] counts = {3, 2, 40, 2, 1, 17, 2, 2};
    for (int what = 0; what < counts.length; what++) {
      Check.due("busy: count " + what, busy.count(what), counts[what]);
    }
    int[] fresh = {0, 0, 1, 0, 0, 0, 0, 0};
    PassChain x = new PassChain();
    for (int what = 0; what < fresh.length; what++) {
      Check.due("another one is new: count " + what, x.count(what), fresh[what]);
    }
    int[][] sizes = {{-1, -1}, {-1, -1}, {-1, -1}, {0, 7}};
    for (int p = 0; p < 4; p++) {
      Check.due("new: items of " + p, x.size(p, 0), sizes[p][0]);
      Check.due("new: registers of " + p, x.size(p, 1), sizes[p][1]);
    }
    Check.leaves("restore of a new one", PassChain::new, CallEdgesTest::restored, 0, PassChain::new);
    Check.leaves("dry of a new one", PassChain::new, CallEdgesTest::dried, 0, PassChain::new);
    Check.leaves("compile of a new one", PassChain::new, y -> y.compile(), 0, PassChain::new);
    Check.refused("touch of a new one", PassChain::new, y -> Check.of(y.touch(3, 0, 0, 0)), Check.ARGUMENT);
    Check.refused("swap of a new one", PassChain::new, y -> Check.of(y.swap(3, 0)), Check.ARGUMENT);
    Check.due("a run of a new one", x.run(1), 0);
    Check.due("is one step", x.count(5), 1);
  }

  private static long restored(PassChain x) {
    x.restore();
    return 0;
  }

  private static long dried(PassChain x) {
    x.dry();
    return 0;
  }

  private static void putArguments() {
    int word = '!' << 24 | '4' << 16 | '5' << 8 | ';';
    int[] wrong = {LEAST, -1, 0, 5, 6, 8, 32, GREATEST};
    for (int n : wrong) {
      Check.refused("put with n " + n, CallEdgesTest::busy, x -> Check.of(x.put(word, n)), 0);
    }
    String[] texts = {";", "5;", "45;", "!45;"};
    for (int n = 1; n <= 4; n++) {
      int length = n;
      String text = texts[n - 1];
      Check.leaves("put with n " + n, CallEdgesTest::busy, x -> Check.of(x.put(word, length)), 1, () -> {
        PassChain y = busy();
        Check.write(y, text);
        return y;
      });
    }
    int[] words = {0x1F212121, 0x7F212121, 0x80212121, 0x211F2121, 0x21217F21, 0x212121FF, -1, 0, LEAST};
    for (int one : words) {
      Check.refused("put of " + Integer.toHexString(one), CallEdgesTest::busy, x -> Check.of(x.put(one, 4)), 0);
    }
  }

  private static void passArguments() {
    int[] wrong = {LEAST, -2, -1, 5, 6, 8, GREATEST};
    for (int kind : wrong) {
      Check.refused("pass " + kind, CallEdgesTest::busy, x -> x.pass(kind), Check.ARGUMENT);
      Check.refused("pass " + kind + " of a new one", PassChain::new, x -> x.pass(kind), Check.ARGUMENT);
    }
    for (int kind = 0; kind <= 4; kind++) {
      PassChain x = new PassChain();
      Check.due("pass " + kind + " over no items", x.pass(kind), 0);
      Check.due("stays", x.count(6), 1);
    }
  }

  private static PassChain withPassThatDoesNotStay() {
    PassChain x = Check.program("P{!-x;}?c;Wc{P(c);}!4;");
    // Where P begins, 8 is 0 just as 7 is then; where it is put into the loop, it is not.
    Check.due("8 for 7", Check.of(x.touch(0, 1, 1, 8)), 1);
    x.feed(0);
    x.run(3);
    Check.write(x, "!5;");
    return x;
  }

  private static void passThatDoesNotStay() {
    Check.doesNotStay("INLINE", CallEdgesTest::withPassThatDoesNotStay, x -> x.pass(4), -1);
    PassChain x = withPassThatDoesNotStay();
    for (int n = 1; n <= 3; n++) {
      Check.due("INLINE once more", x.pass(4), -1);
      Check.due("did not stay", x.count(7), n);
      Check.due("stayed", x.count(6), 1);
    }
    Check.due("another pass stays", x.pass(2), 1);
    Check.due("two stayed", x.count(6), 2);
    Check.due("three did not", x.count(7), 3);
  }

  private static void refusesTouch(int part, int k, int which, int v) {
    Check.refused("touch " + part + " " + k + " " + which + " " + v, CallEdgesTest::busy,
        x -> Check.of(x.touch(part, k, which, v)), Check.ARGUMENT);
  }

  private static void touchArguments() {
    int[] parts = {LEAST, -1, 2, 4, 5, GREATEST};
    for (int part : parts) {
      refusesTouch(part, 0, 0, 0);
    }
    int items = busy().size(3, 0);
    int[] wrong = {LEAST, -1, items, items + 1, 150, 240, GREATEST};
    for (int k : wrong) {
      refusesTouch(3, k, 0, 0);
    }
    refusesTouch(0, busy().size(0, 0), 0, 0);
    refusesTouch(1, 1, 0, 0);
    Check.due("the first item of P", Check.of(busy().touch(0, 0, 0, 7)), 1);
    Check.due("the last of Q", Check.of(busy().touch(1, 0, 0, 0)), 1);
    Check.due("the last of the main part that has any", Check.of(busy().touch(3, items - 2, 1, 9)), 1);
    refusesTouch(3, items - 1, 0, 0);
  }

  /** Each number of each kind of item: which there are, and what it may become. */
  private static void touchOfEachNumber() {
    String text = "P{}a=1;b=a;c=a+b;d=A[a];A[a]=b;?e;!a;P(a);Ia{}{}Wb{b=0;}";
    PassChain all = Check.program(text);
    int registers = all.size(3, 1);
    for (int k = 0; k < all.size(3, 0); k++) {
      int item = k;
      int kind = all.item(3, k, 0);
      int[] wrong = {LEAST, -1, NUMBERS_OF[kind], NUMBERS_OF[kind] + 1, 5, GREATEST};
      for (int which : wrong) {
        Check.refused("number " + which + " of item " + k, () -> Check.program(text),
            x -> Check.of(x.touch(3, item, which, 0)), Check.ARGUMENT);
      }
      for (int which = 0; which < NUMBERS_OF[kind]; which++) {
        touchOfNumber(text, k, which, registers);
      }
    }
  }

  private static void touchOfNumber(String text, int k, int which, int registers) {
    PassChain all = Check.program(text);
    int kind = all.item(3, k, 0);
    int is = all.item(3, k, which + 1);
    boolean isNumber = kind == 0 && which == 1;
    int most = kind == 2 && which == 3 ? 5 : registers - 1;
    int[] values = {LEAST, -2, -1, 0, 1, 5, 6, 7, registers - 1, registers, registers + 1, 59, 60, 61, GREATEST, is};
    for (int v : values) {
      boolean may = (kind != CALL || which == 0) && (isNumber || v >= 0 && v <= most);
      String what = "touch " + k + " " + which + " " + v + " of " + text;
      if (!may) {
        Check.refused(what, () -> Check.program(text), x -> Check.of(x.touch(3, k, which, v)), Check.ARGUMENT);
        continue;
      }
      PassChain x = Check.program(text);
      long answer = Check.answerOf(() -> Check.of(x.touch(3, k, which, v)));
      Check.due(what + " is a change", Check.of(answer == 0 || answer == 1), 1);
      Check.due(what + " counts", x.count(6) * 10 + x.count(7), answer == 1 ? 10 : 1);
      Check.due(what + ": the number then", x.item(3, k, which + 1), answer == 1 ? v : is);
      if (v == is) {
        Check.due(what + ": what it is already", answer, 1);
      }
    }
  }

  private static void touchThatDoesNotStay() {
    // 5 0; 5 1; then the PRINT and the CALL, 8 1; 10; 11 3; 12; 9; CONST, CONST, WORK, STORE; 12.
    Check.doesNotStay("touch of the PRINT", CallEdgesTest::busy, x -> Check.of(x.touch(3, 3, 0, 0)), 0);
    Check.doesNotStay("touch of the IF", CallEdgesTest::busy, x -> Check.of(x.touch(3, 4, 0, 0)), 0);
    Check.doesNotStay("touch in P", CallEdgesTest::busy, x -> Check.of(x.touch(0, 1, 3, 1)), 0);
    PassChain x = busy();
    for (int n = 3; n <= 5; n++) {
      Check.due("touch once more", Check.of(x.touch(0, 1, 3, 1)), 0);
      Check.due("did not stay", x.count(7), n);
    }
    Check.due("stayed as before", x.count(6), 2);
  }

  private static void refusesSwap(int part, int k) {
    Check.refused("swap " + part + " " + k, CallEdgesTest::busy, x -> Check.of(x.swap(part, k)), Check.ARGUMENT);
  }

  private static void swapArguments() {
    int[] parts = {LEAST, -1, 2, 4, GREATEST};
    for (int part : parts) {
      refusesSwap(part, 0);
    }
    PassChain all = busy();
    int[] far = {LEAST, LEAST + 1, -2, -1, all.size(3, 0) - 1, all.size(3, 0), 150, 240, GREATEST - 1, GREATEST};
    for (int k : far) {
      refusesSwap(3, k);
    }
    for (int k = 0; k + 1 < all.size(3, 0); k++) {
      int item = k;
      if (all.item(3, k, 0) >= 8 || all.item(3, k + 1, 0) >= 8) {
        refusesSwap(3, k);
      } else {
        long answer = Check.answerOf(() -> Check.of(busy().swap(3, item)));
        Check.due("swap " + k + " is a change", Check.of(answer == 0 || answer == 1), 1);
      }
    }
    refusesSwap(0, all.size(0, 0) - 1);
    refusesSwap(1, 0);
    Check.due("the last two of P", Check.of(busy().swap(0, all.size(0, 0) - 2)), 0);
    PassChain x = Check.program("P{}P(a);P(b);");
    Check.due("two CALLs, which may be", Check.of(x.swap(3, 0)), 1);
    Check.due("change places", Check.rows(x, 3), "7 1 0; 7 0 0");
  }

  private static void swapThatDoesNotStay() {
    Check.doesNotStay("swap of two INPUTs", CallEdgesTest::busy, x -> Check.of(x.swap(3, 0)), 0);
    Check.doesNotStay("swap in P", CallEdgesTest::busy, x -> Check.of(x.swap(0, 0)), 0);
    PassChain x = busy();
    Check.due("a swap in P", Check.of(x.swap(0, 0)), 0);
    Check.due("counts", x.count(7), 3);
  }

  private static PassChain uncounted() {
    PassChain x = Check.program("P{!x+2;}Q{?c;}?a;?b;P(a);!b;Ib{Wd{}}{A[1]=e/2;}");
    x.feed(50);
    x.feed(-60);
    x.run(17);
    Check.write(x, "!3;");
    return x;
  }

  private static void restoreLeaves() {
    PassChain x = busy();
    PassChain compiled = uncounted();
    x.restore();
    for (int p = 0; p < 4; p++) {
      Check.due("rows of " + p, Check.rows(x, p), Check.rows(compiled, p));
      Check.due("registers of " + p, x.size(p, 1), compiled.size(p, 1));
    }
    int[] counts = {3, 2, 40, 2, 1, 17, 2, 2};
    for (int what = 0; what < counts.length; what++) {
      Check.due("count " + what + " stays", x.count(what), counts[what]);
    }
    Check.due("code", Check.code(x), Check.code(compiled));
    Check.due("printed", Check.printed(x), "52");
    Check.leaves("restore of what is as compiled", CallEdgesTest::uncounted, CallEdgesTest::restored, 0,
        CallEdgesTest::uncounted);
    Check.leaves("restore twice", CallEdgesTest::restoredBusy, CallEdgesTest::restored, 0,
        CallEdgesTest::restoredBusy);
  }

  private static PassChain restoredBusy() {
    PassChain x = busy();
    x.restore();
    return x;
  }

  /** Calls that only look, at all that is near: they answer, or throw, and leave all as it is. */
  private static void lookArguments() {
    int[] near = {LEAST, -1, 0, 1, 2, 3, 4, 5, GREATEST};
    int[][] sizes = {{3, 9}, {1, 7}, {-1, -1}, {14, 10}};
    for (int part : near) {
      for (int what : near) {
        boolean is = part >= 0 && part <= 3 && what >= 0 && what <= 1;
        Check.due("size " + part + " " + what, busy().size(part, what), is ? sizes[part][what] : -1);
      }
    }
    lookAtItems(near);
    lookAtCode(near);
    Check.refused("size that is none", CallEdgesTest::busy, x -> x.size(2, 0), -1);
    Check.refused("item that is none", CallEdgesTest::busy, x -> x.item(3, 14, 0), Check.NO_ELEMENT);
    Check.refused("code that is none", CallEdgesTest::busy, x -> x.code(40, 0), Check.NO_ELEMENT);
    Check.refused("out that is none", CallEdgesTest::busy, x -> x.out(1), Check.NO_ELEMENT);
    Check.refused("count that is none", CallEdgesTest::busy, x -> x.count(8), -1);
    Check.leaves("count of letters", CallEdgesTest::busy, x -> x.count(2), 40, CallEdgesTest::busy);
  }

  private static void lookAtItems(int[] near) {
    String text = "P{}a=1;b=a;c=a+b;d=A[a];A[a]=b;?e;!a;P(a);Ia{}{}Wb{b=0;}";
    PassChain x = Check.program(text);
    int items = x.size(3, 0);
    int[] far = {LEAST, -1, items, items + 1, 150, 239, 240, GREATEST};
    for (int k : far) {
      for (int what : near) {
        Check.due("item " + k + " " + what, () -> x.item(3, k, what), Check.NO_ELEMENT);
      }
    }
    for (int k = 0; k < items; k++) {
      int item = k;
      int numbers = NUMBERS_OF[x.item(3, k, 0)];
      for (int what : near) {
        boolean is = what >= 0 && what <= numbers;
        boolean throwsIt = Check.answerOf(() -> x.item(3, item, what)) == Check.NO_ELEMENT;
        Check.due("item " + k + " " + what + " is there", Check.of(!throwsIt), Check.of(is));
      }
    }
    int[] parts = {LEAST, -1, 1, 2, 4, GREATEST};
    for (int part : parts) {
      Check.due("an item of part " + part, () -> x.item(part, 0, 0), Check.NO_ELEMENT);
    }
    Check.due("an item of P, which has none", () -> x.item(0, 0, 0), Check.NO_ELEMENT);
  }

  private static void lookAtCode(int[] near) {
    PassChain x = Check.program("P{?c;}!a;");
    Check.due("code", Check.code(x), "1 0; 12 0; 17 0; 2 6; 11 0; 2 2; 16 0");
    int[] far = {LEAST, -1, 7, 8, 128, 2407, GREATEST};
    for (int place : far) {
      for (int what : near) {
        Check.due("code " + place + " " + what, () -> x.code(place, what), Check.NO_ELEMENT);
      }
    }
    for (int place = 0; place < 7; place++) {
      int at = place;
      for (int what : near) {
        boolean throwsIt = Check.answerOf(() -> x.code(at, what)) == Check.NO_ELEMENT;
        Check.due("code " + place + " " + what + " is there", Check.of(!throwsIt), Check.of(what == 0 || what == 1));
      }
    }
  }

  private static PassChain fed(int n) {
    PassChain x = Check.program("Wa<22{?b;c=c*3+b;a=a+1;}!c;?d;!d;");
    for (int i = 0; i < n; i++) {
      Check.due("feed " + i, Check.of(x.feed(i + 1)), 1);
    }
    return x;
  }

  private static void feedUpToTheLimit() {
    for (int n = 0; n <= 20; n++) {
      Check.due("inputs", fed(n).count(3), n);
    }
    int[] values = {0, 21, LEAST, GREATEST};
    for (int v : values) {
      Check.refused("a 21st, " + v, () -> fed(20), x -> Check.of(x.feed(v)), 0);
      Check.due("a 20th, " + v, Check.of(fed(19).feed(v)), 1);
    }
    PassChain x = fed(20);
    int sum = 0;
    for (int i = 0; i < 22; i++) {
      sum = sum * 3 + (i < 20 ? i + 1 : 0);
    }
    x.run(2000);
    Check.due("all twenty are read, in order", Check.printed(x), sum + " 0");
    PassChain y = Check.program("?a;!a;");
    Check.due("the least", Check.of(y.feed(LEAST)), 1);
    y.run(100);
    Check.due("is read", Check.printed(y), "-2147483648");
  }

  private static PassChain driedAndFed(int n) {
    PassChain x = fed(n);
    x.dry();
    return x;
  }

  private static void dryLeaves() {
    for (int n = 0; n <= 20; n += 10) {
      int fed = n;
      Check.leaves("dry of " + n, () -> fed(fed), CallEdgesTest::dried, 0, () -> fed(0));
      Check.leaves("dry of " + n + " twice", () -> driedAndFed(fed), CallEdgesTest::dried, 0, () -> fed(0));
    }
    PassChain x = driedAndFed(20);
    for (int i = 0; i < 20; i++) {
      Check.due("feed again", Check.of(x.feed(7)), 1);
    }
    Check.due("a 21st again", Check.of(x.feed(7)), 0);
    PassChain y = busy();
    y.dry();
    int[] counts = {3, 2, 40, 0, 1, 17, 2, 2};
    for (int what = 0; what < counts.length; what++) {
      Check.due("count " + what + " behind dry", y.count(what), counts[what]);
    }
    Check.due("printed behind dry", Check.printed(y), "52");
  }

  private static void fuelArguments() {
    int[] wrong = {LEAST, -1, 0, 2001, 2002, 4000, GREATEST};
    for (int fuel : wrong) {
      Check.refused("run " + fuel, CallEdgesTest::busy, x -> x.run(fuel), Check.ARGUMENT);
      Check.refused("run " + fuel + " of a new one", PassChain::new, x -> x.run(fuel), Check.ARGUMENT);
    }
    PassChain x = Check.program("W1{}");
    int[] right = {1, 2, 1999, 2000};
    for (int fuel : right) {
      Check.due("run " + fuel, x.run(fuel), 3);
      Check.due("steps of run " + fuel, x.count(5), fuel);
    }
  }

  /** For each way to end: with just the fuel for it, and with one less. */
  private static void fuelAtEachStep() {
    String[] texts = {"", "!1;", "!1/a;", "!A[8];", "A[-1]=3;", "P{!x;}P(1);P(2);", "Wa<3{a=a+1;!a;}", "Ia{}{!2;}"};
    int[] ends = {0, 0, 1, 2, 2, 0, 0, 0};
    for (int i = 0; i < texts.length; i++) {
      PassChain x = Check.program(texts[i]);
      Check.due("run of " + texts[i], x.run(2000), ends[i]);
      int steps = x.count(5);
      String printed = Check.printed(x);
      Check.due("run of " + texts[i] + " with " + steps, x.run(steps), ends[i]);
      Check.due("steps of it", x.count(5), steps);
      Check.due("printed by it", Check.printed(x), printed);
      for (int fuel = 1; fuel < steps; fuel++) {
        Check.due("run of " + texts[i] + " with " + fuel, x.run(fuel), 3);
        Check.due("steps of it", x.count(5), fuel);
        Check.due("printed by it", Check.of(printed.startsWith(Check.printed(x))), 1);
      }
    }
    // NUMBER PUT, GET GET + PUT GET PUT: a WHILE of 2000 steps, and of one more.
    PassChain y = Check.program("Wa<166{a=a+1;}!a;");
    Check.due("a run that needs more than 2000", y.run(2000), 3);
    Check.due("does 2000", y.count(5), 2000);
  }

  private static void fortyNumbers() {
    for (int n = 38; n <= 42; n++) {
      PassChain x = Check.program("Wa<" + n + "{a=a+1;!a;}");
      Check.due("run of " + n, x.run(2000), n <= 40 ? 0 : 4);
      int printed = Math.min(n, 40);
      Check.due("printed of " + n, x.count(4), printed);
      Check.due("the last of " + n, () -> x.out(printed - 1), printed);
      Check.due("none behind it", () -> x.out(printed), Check.NO_ELEMENT);
      // NUMBER PUT GET GET < PUT GET ZERO each time, NUMBER PUT GET GET + PUT GET PUT GET SHOW GO behind it.
      int before = 40 * 19 + 8 + 9;
      if (n > 40) {
        Check.due("steps ahead of the 41st", x.count(5), before);
        Check.due("no fuel for the 41st", x.run(before), 3);
        Check.due("steps then", x.count(5), before);
        Check.due("fuel for the 41st", x.run(before + 1), 4);
        Check.due("steps are the same", x.count(5), before);
        Check.due("40 are printed", x.count(4), 40);
      } else {
        Check.due("steps of " + n, x.count(5), n * 19 + 8 + 1);
      }
    }
  }

  private static void outArguments() {
    PassChain x = Check.program("!11;!22;!33;");
    int[] wrong = {LEAST, -1, 3, 4, 39, 40, 41, GREATEST};
    int[] ends = {0, 3, 4, 7, 8, 11, 12};
    for (int fuel : ends) {
      if (fuel > 0) {
        x.run(fuel);
      }
      int printed = fuel / 4;
      for (int k = 0; k < 3; k++) {
        int at = k;
        Check.due("out " + k + " behind " + fuel, () -> x.out(at), k < printed ? 11 * (k + 1) : Check.NO_ELEMENT);
      }
      for (int k : wrong) {
        Check.due("out " + k + " behind " + fuel, () -> x.out(k), Check.NO_ELEMENT);
      }
    }
    Check.compile(x, "!44;");
    Check.due("another program: out stays", () -> x.out(2), 33);
    x.run(100);
    Check.due("until it is run", () -> x.out(0), 44);
    Check.due("which printed one", () -> x.out(1), Check.NO_ELEMENT);
  }

  private static void countArguments() {
    int[] wrong = {LEAST, -8, -1, 8, 9, 16, GREATEST};
    for (int what : wrong) {
      Check.refused("count " + what, CallEdgesTest::busy, x -> x.count(what), -1);
      Check.refused("count " + what + " of a new one", PassChain::new, x -> x.count(what), -1);
    }
    PassChain x = Check.program("!1;");
    List<Integer> stayed = new ArrayList<>();
    for (int n = 1; n <= 100; n++) {
      x.pass(n % 5);
      stayed.add(x.count(6));
    }
    Check.due("each pass counts", stayed.get(99), 100);
  }

  /** The document speaks of 512 calls: the last of them answers as the first does. */
  private static void theLastOf512() {
    Check.Ask[] last = {x -> x.run(2000), x -> x.out(0), x -> x.count(6), x -> x.pass(2), x -> x.code(1, 1),
      x -> Check.of(x.touch(3, 1, 0, 9)), x -> Check.of(x.swap(3, 0)), x -> Check.of(x.put('!', 1)), x -> x.compile()};
    // The passes leave CONST 9 6 and PRINT 9.
    long[] due = {0, 6, 499, 0, 9, 1, 0, 1, 0};
    for (int i = 0; i < last.length; i++) {
      PassChain x = Check.program("a=1;!a+5;");
      Check.due("a run", x.run(2000), 0);
      for (int call = 12; call <= 511; call++) {
        if (call == 100) {
          Check.due("a touch that does not stay", Check.of(x.touch(3, 0, 1, 2)), 0);
        } else {
          Check.due("pass " + call, Check.of(x.pass(call % 5) >= 0), 1);
        }
      }
      Check.Ask ask = last[i];
      Check.due("the 512th call, " + i, () -> ask.of(x), due[i]);
    }
  }
}
