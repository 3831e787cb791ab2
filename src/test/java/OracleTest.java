import java.util.Random;

/** Runs of calls by chance, from fixed seeds, against the document told once more in Oracle. */
public final class OracleTest {
  // Of an object that has been used so often nothing is promised any more.
  private static final int CALLS_MOST = 512;
  private static final int CALLS = 30;

  private final Random random;
  private final Programs programs;
  private final PassChain object = new PassChain();
  private final Oracle oracle = new Oracle();
  private final String run;
  private String calls = "";
  private int used;

  private static final int[] ANSWERS = new int[4];
  private static int rowsLookedAt;

  private OracleTest(int seed) {
    random = new Random(seed);
    programs = new Programs(random);
    run = "run " + seed;
  }

  public static void main(String[] args) {
    int first = args.length > 0 ? Integer.parseInt(args[0]) : 0;
    int runs = args.length > 1 ? Integer.parseInt(args[1]) : 5000;
    for (int seed = first; seed < first + runs; seed++) {
      OracleTest test = new OracleTest(seed);
      test.goOn();
      Check.due(test.run + " uses an object too often", Check.of(test.used > CALLS_MOST), 0);
    }
    System.out.println("changes that stayed " + ANSWERS[1] + ", did not " + ANSWERS[0]
        + ", passes that stayed " + ANSWERS[3] + ", did not " + ANSWERS[2] + ", rows looked at " + rowsLookedAt);
    Check.end();
  }

  private PassChain x() {
    used++;
    return object;
  }

  private boolean mayUse(int more) {
    return used + more <= CALLS_MOST;
  }

  private void goOn() {
    compile();
    for (int n = 0; n < CALLS; n++) {
      if (n == CALLS / 2 && random.nextInt(4) == 0) {
        compile();
      }
      call();
      Check.due(run + calls + " stayed", x().count(6), oracle.stayed);
      Check.due(run + calls + " refused", x().count(7), oracle.refused);
      int part = random.nextInt(4);
      for (int p = 0; p < 4; p++) {
        lookAt((part + p) % 4, n + 1 == CALLS ? 0 : 5 * (CALLS - n));
      }
    }
  }

  private int itemsOf(int part) {
    return part < 0 || part > 3 || oracle.now[part] == null ? 0 : Oracle.flat(oracle.now[part].items).size();
  }

  /** The rows and registers of a part, if so many calls are left behind that. */
  private void lookAt(int part, int left) {
    int items = itemsOf(part);
    if (!mayUse(left + 2 + 7 * items)) {
      return;
    }
    long registers = oracle.now[part] == null ? -1 : oracle.now[part].registers;
    Check.due(run + calls + " registers " + part, x().size(part, 1), registers);
    Check.due(run + calls + " rows " + part, Check.rows(object, part), oracle.rows(part));
    // An item has up to 5 numbers, and for each as well as at the end the size is asked for.
    used += 1 + 7 * items;
    rowsLookedAt++;
  }

  private void due(String call, long got, long want) {
    calls += " " + call;
    Check.due(run + calls, got, want);
  }

  private void compile() {
    String text = programs.any();
    if (mayUse(text.length() + 4 * CALLS)) {
      for (int i = 0; i < text.length(); i += 4) {
        int n = Math.min(4, text.length() - i);
        int word = 0;
        for (int k = 0; k < n; k++) {
          word = word << 8 | text.charAt(i + k);
        }
        x().put(word, n);
      }
      due("compile " + text, Check.answerOf(() -> x().compile()), oracle.compile(text));
    }
  }

  private void call() {
    int p = random.nextInt(12) == 0 ? random.nextInt(6) - 1 : random.nextBoolean() ? 3 : random.nextInt(3);
    int items = itemsOf(p);
    int k = items > 0 && random.nextInt(20) != 0 ? random.nextInt(items) : random.nextInt(150) - 3;
    switch (random.nextInt(14)) {
      case 0:
      case 1:
      case 2:
      case 3:
        int kind = random.nextInt(30) == 0 ? random.nextInt(8) - 2 : random.nextInt(5);
        long passed = oracle.pass(kind);
        due("pass " + kind, Check.answerOf(() -> x().pass(kind)), passed);
        ANSWERS[passed < 0 ? 2 : 3]++;
        break;
      case 4:
      case 5:
      case 6:
      case 7:
        touch(p, k);
        break;
      case 8:
      case 9:
        long swapped = oracle.swap(p, k);
        due("swap " + p + " " + k, Check.answerOf(() -> Check.of(x().swap(p, k))), swapped);
        ANSWERS[swapped == 1 ? 1 : 0]++;
        break;
      case 10:
        if (random.nextInt(4) == 0) {
          x().restore();
          oracle.restore();
          calls += " restore";
        }
        break;
      case 11:
        code();
        break;
      case 12:
        feed();
        break;
      default:
        go();
        break;
    }
  }

  private void touch(int p, int k) {
    int which = random.nextInt(random.nextInt(10) == 0 ? 6 : 3);
    int registers = p < 0 || p > 3 || oracle.now[p] == null ? 1 : oracle.now[p].registers;
    int chance = random.nextInt(8);
    int v = chance == 0 ? random.nextInt(70) - 4
        : chance < 4 ? random.nextInt(registers) : random.nextInt(4) + (chance < 6 ? 0 : 6);
    long touched = oracle.touch(p, k, which, v);
    due("touch " + p + " " + k + " " + which + " " + v,
        Check.answerOf(() -> Check.of(x().touch(p, k, which, v))), touched);
    ANSWERS[touched == 1 ? 1 : 0]++;
  }

  private void feed() {
    if (random.nextInt(6) == 0) {
      x().dry();
      oracle.input.clear();
    }
    int v = random.nextInt(20) - 6;
    Check.due(run + " feed", Check.of(x().feed(v)), Check.of(oracle.input.size() < 20));
    if (oracle.input.size() < 20) {
      oracle.input.add(v);
    }
  }

  private void go() {
    int fuel = random.nextInt(10) == 0 ? random.nextInt(60) - 10 : 1 + random.nextInt(2000);
    due("run " + fuel, Check.answerOf(() -> x().run(fuel)), oracle.run(fuel));
    Check.due(run + calls + " steps", x().count(5), oracle.steps);
    Check.due(run + calls + " how many printed", x().count(4), oracle.printed.size());
    if (mayUse(5 * CALLS + 2 * oracle.printed.size())) {
      Check.due(run + calls + " printed", Check.printed(object),
          oracle.printed.toString().replaceAll("[\\[\\],]", ""));
      used += 2 * oracle.printed.size() + 1;
    }
  }

  private void code() {
    StringBuilder told = new StringBuilder();
    int letters = 0;
    for (int[] letter : oracle.code()) {
      told.append(told.length() == 0 ? "" : "; ").append(letter[0]).append(' ').append(letter[1]);
      letters++;
    }
    Check.due(run + calls + " letters", x().count(2), letters);
    if (mayUse(5 * CALLS + 3 * letters)) {
      Check.due(run + calls + " code", Check.code(object), told.toString());
      used += 3 * letters + 1;
    }
  }
}
