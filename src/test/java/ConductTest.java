import java.util.Random;

/** What the walk is for: whatever stays, a run prints the same and ends the same. */
public final class ConductTest {
  private static int compared = 0;

  public static void main(String[] args) {
    for (int seed = 0; seed < 3000; seed++) {
      Random random = new Random(7_000_000L + seed);
      goOn(seed, random, new Programs(random).any());
    }
    System.out.println(compared + " runs compared");
    Check.end();
  }

  private static void goOn(int seed, Random random, String text) {
    PassChain x = new PassChain();
    if (Check.compile(x, text) < 0) {
      return;
    }
    for (int i = random.nextInt(8); i > 0; i--) {
      x.feed(random.nextInt(7) - 2);
    }
    int end = x.run(2000);
    String printed = Check.printed(x);
    for (int i = 0; i < 12; i++) {
      // Nobody has laid hands on the rows yet, and the passes themselves are sound.
      Check.due(seed + " " + text + ": a pass stays", Check.of(x.pass(random.nextInt(5)) >= 0), 1);
      compare(seed + " " + text, x, end, printed);
    }
    x.restore();
    for (int i = 0; i < 60; i++) {
      if (i % 6 == 0 ? x.pass(random.nextInt(5)) >= 0 : changes(x, random)) {
        compare(seed + " " + text, x, end, printed);
      }
    }
  }

  private static boolean changes(PassChain x, Random random) {
    int part = random.nextInt(3) == 0 ? random.nextInt(4) : 3;
    if (x.size(part, 0) < 1) {
      return false;
    }
    int k = random.nextInt(x.size(part, 0));
    int which = random.nextInt(3);
    int v = random.nextInt(x.size(part, 1));
    if (random.nextInt(3) == 0) {
      return Check.answerOf(() -> Check.of(x.swap(part, k))) == 1;
    }
    return Check.answerOf(() -> Check.of(x.touch(part, k, which, v))) == 1;
  }

  private static void compare(String what, PassChain x, int end, String printed) {
    int endNow = x.run(2000);
    String now = Check.printed(x);
    compared++;
    if (end == 3 || endNow == 3) {
      boolean one = now.startsWith(printed) || printed.startsWith(now);
      Check.due(what + " prints " + printed + " or " + now, Check.of(one), 1);
    } else {
      Check.due(what + " ends", endNow, end);
      Check.due(what + " prints", now, printed);
    }
  }
}
