import java.util.Random;

/** What the walk is for: whatever stays, a run prints the same and ends the same. */
public final class ConductTest {
  // Of an object that has been used so often nothing is promised any more.
  private static final int CALLS_MOST = 512;
  // A change asks for two sizes, a run prints 40 numbers at most, and each is asked for with the count.
  private static final int CALLS_OF_ONE = 3 + 1 + 2 * 40 + 1;
  private static int compared = 0;

  private final Random random;
  private final String text;
  private final String what;
  private PassChain x = new PassChain();
  private int used;
  private int end;
  private String printed;

  private ConductTest(int seed) {
    random = new Random(7_000_000L + seed);
    text = new Programs(random).any();
    what = seed + " " + text;
  }

  public static void main(String[] args) {
    for (int seed = 0; seed < 4000; seed++) {
      ConductTest test = new ConductTest(seed);
      if (Check.compile(new PassChain(), test.text) >= 0) {
        test.passes();
        test.byHand();
      }
    }
    System.out.println(compared + " runs compared");
    Check.end();
  }

  private void begin() {
    x = Check.program(text);
    used = text.length() + 1;
    for (int i = random.nextInt(8); i > 0; i--) {
      x.feed(random.nextInt(7) - 2);
      used++;
    }
    end = x.run(2000);
    printed = Check.printed(x);
    used += CALLS_OF_ONE;
  }

  /** Nobody has laid hands on the rows, and the passes themselves are sound. */
  private void passes() {
    begin();
    for (int i = 0; i < 12 && used + CALLS_OF_ONE <= CALLS_MOST; i++) {
      Check.due(what + ": a pass stays", Check.of(x.pass(random.nextInt(5)) >= 0), 1);
      compare();
    }
  }

  private void byHand() {
    begin();
    for (int i = 0; i < 60 && used + CALLS_OF_ONE <= CALLS_MOST; i++) {
      used += 3;
      if (i % 6 == 0 ? x.pass(random.nextInt(5)) >= 0 : changes()) {
        compare();
      }
    }
  }

  private boolean changes() {
    int part = random.nextInt(3) == 0 ? random.nextInt(4) : 3;
    int items = x.size(part, 0);
    if (items < 1) {
      return false;
    }
    int k = random.nextInt(items);
    int which = random.nextInt(3);
    int v = random.nextInt(x.size(part, 1));
    if (random.nextInt(3) == 0) {
      return Check.answerOf(() -> Check.of(x.swap(part, k))) == 1;
    }
    return Check.answerOf(() -> Check.of(x.touch(part, k, which, v))) == 1;
  }

  private void compare() {
    int endNow = x.run(2000);
    String now = Check.printed(x);
    used += 2 + 2 * x.count(4) + 1;
    compared++;
    if (end == 3 || endNow == 3) {
      boolean one = begins(now, printed) || begins(printed, now);
      Check.due(what + " prints " + printed + " or " + now, Check.of(one), 1);
    } else {
      Check.due(what + " ends", endNow, end);
      Check.due(what + " prints", now, printed);
    }
  }

  private static boolean begins(String all, String first) {
    return first.isEmpty() || (all + " ").startsWith(first + " ");
  }
}
