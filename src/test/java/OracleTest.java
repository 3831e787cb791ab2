import java.util.Random;

/** Runs of calls by chance, from fixed seeds, against the document told once more in Oracle. */
public final class OracleTest {
  private final Random random;
  private final Programs programs;
  private final PassChain x = new PassChain();
  private final Oracle oracle = new Oracle();
  private final String run;
  private String calls = "";

  private static final int[] ANSWERS = new int[4];

  private OracleTest(int seed) {
    random = new Random(seed);
    programs = new Programs(random);
    run = "run " + seed;
  }

  public static void main(String[] args) {
    int first = args.length > 0 ? Integer.parseInt(args[0]) : 0;
    int runs = args.length > 1 ? Integer.parseInt(args[1]) : 1500;
    for (int seed = first; seed < first + runs; seed++) {
      new OracleTest(seed).goOn();
    }
    System.out.println("changes that stayed " + ANSWERS[1] + ", did not " + ANSWERS[0]
        + ", passes that stayed " + ANSWERS[3] + ", did not " + ANSWERS[2]);
    Check.end();
  }

  private void goOn() {
    for (int n = 0; n < 40; n++) {
      if (n % 20 == 0) {
        compile();
      }
      call();
      for (int p = 0; p < 4; p++) {
        Check.due(run + calls + " rows " + p, Check.rows(x, p), oracle.rows(p));
        long registers = oracle.now[p] == null ? -1 : oracle.now[p].registers;
        Check.due(run + calls + " registers " + p, x.size(p, 1), registers);
      }
      Check.due(run + calls + " stayed", x.count(6), oracle.stayed);
      Check.due(run + calls + " refused", x.count(7), oracle.refused);
    }
  }

  private void due(String call, long got, long want) {
    calls += " " + call;
    Check.due(run + calls, got, want);
  }

  private void compile() {
    String text = programs.any();
    due("compile " + text, Check.compile(x, text), oracle.compile(text));
  }

  private void call() {
    int p = random.nextInt(12) == 0 ? random.nextInt(6) - 1 : random.nextBoolean() ? 3 : random.nextInt(3);
    int items = x.size(p, 0);
    int k = items > 0 && random.nextInt(20) != 0 ? random.nextInt(items) : random.nextInt(150) - 3;
    switch (random.nextInt(14)) {
      case 0:
      case 1:
      case 2:
      case 3:
        int kind = random.nextInt(30) == 0 ? random.nextInt(8) - 2 : random.nextInt(5);
        long passed = oracle.pass(kind);
        due("pass " + kind, Check.answerOf(() -> x.pass(kind)), passed);
        ANSWERS[passed < 0 ? 2 : 3]++;
        break;
      case 4:
      case 5:
      case 6:
      case 7:
        touch(p, k);
        break;
      case 8:
      case 9:
        long swapped = oracle.swap(p, k);
        due("swap " + p + " " + k, Check.answerOf(() -> Check.of(x.swap(p, k))), swapped);
        ANSWERS[swapped == 1 ? 1 : 0]++;
        break;
      case 10:
        if (random.nextInt(4) == 0) {
          x.restore();
          oracle.restore();
          calls += " restore";
        }
        break;
      case 11:
        code();
        break;
      case 12:
        if (random.nextInt(6) == 0) {
          x.dry();
          oracle.input.clear();
        }
        int v = random.nextInt(20) - 6;
        Check.due(run + " feed", Check.of(x.feed(v)), Check.of(oracle.input.size() < 20));
        if (oracle.input.size() < 20) {
          oracle.input.add(v);
        }
        break;
      default:
        int fuel = random.nextInt(10) == 0 ? random.nextInt(60) - 10 : 1 + random.nextInt(2000);
        due("run " + fuel, Check.answerOf(() -> x.run(fuel)), oracle.run(fuel));
        Check.due(run + calls + " steps", x.count(5), oracle.steps);
        Check.due(run + calls + " printed", Check.printed(x),
            oracle.printed.toString().replaceAll("[\\[\\],]", ""));
        break;
    }
  }

  private void touch(int p, int k) {
    int which = random.nextInt(random.nextInt(10) == 0 ? 6 : 3);
    int registers = Math.max(1, x.size(p, 1));
    int chance = random.nextInt(8);
    int v = chance == 0 ? random.nextInt(70) - 4
        : chance < 4 ? random.nextInt(registers) : random.nextInt(4) + (chance < 6 ? 0 : 6);
    long touched = oracle.touch(p, k, which, v);
    due("touch " + p + " " + k + " " + which + " " + v,
        Check.answerOf(() -> Check.of(x.touch(p, k, which, v))), touched);
    ANSWERS[touched == 1 ? 1 : 0]++;
  }

  private void code() {
    StringBuilder told = new StringBuilder();
    for (int[] letter : oracle.code()) {
      told.append(told.length() == 0 ? "" : "; ").append(letter[0]).append(' ').append(letter[1]);
    }
    Check.due(run + calls + " code", Check.code(x), told.toString());
  }
}
