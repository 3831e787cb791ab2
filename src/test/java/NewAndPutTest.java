/** Promises 1 and 2: a new object, and put. */
public final class NewAndPutTest {
  public static void main(String[] args) {
    newObject();
    putInOrder();
    putRefuses();
    putUpToTheLimit();
    Check.end();
  }

  private static void newObject() {
    PassChain x = new PassChain();
    int[] counts = {0, 0, 1, 0, 0, 0, 0, 0};
    for (int what = 0; what < counts.length; what++) {
      Check.due("new: count " + what, x.count(what), counts[what]);
    }
    Check.due("new: items", x.size(3, 0), 0);
    Check.due("new: registers", x.size(3, 1), 7);
    for (int p = 0; p < 3; p++) {
      Check.due("new: no procedure " + p, x.size(p, 0), -1);
    }
    Check.due("new: code", Check.code(x), "17 0");
    Check.due("new: no number printed", () -> x.out(0), Check.NO_ELEMENT);
    Check.due("new: no item", () -> x.item(3, 0, 0), Check.NO_ELEMENT);
    Check.due("new: compile of no text", () -> x.compile(), 0);
    Check.due("new: run", x.run(1), 0);
    Check.due("new: a step", x.count(5), 1);
    PassChain other = new PassChain();
    for (int kind = 0; kind < 5; kind++) {
      Check.due("new: pass " + kind, other.pass(kind), 0);
    }
    other.restore();
    Check.due("new: passes stayed", other.count(6), 5);
  }

  private static void putInOrder() {
    PassChain x = new PassChain();
    Check.due("put of one", Check.of(x.put('!', 1)), 1);
    Check.due("put of two, what is above left out",
        Check.of(x.put(0x7F000000 | '1' << 8 | '2', 2)), 1);
    Check.due("put of one more, with a wrong byte above", Check.of(x.put(0x1F00 | ';', 1)), 1);
    Check.due("characters", x.count(0), 4);
    Check.due("it was !12;", () -> x.compile(), 2);
    Check.due("its rows", Check.rows(x, 3), "0 7 12; 6 7");
    Check.due("no text then", x.count(0), 0);
    Check.due("put of four", Check.of(x.put('a' << 24 | '=' << 16 | 'b' << 8 | ';', 4)), 1);
    Check.due("put of three", Check.of(x.put('!' << 16 | 'a' << 8 | ';', 3)), 1);
    Check.due("seven characters", x.count(0), 7);
    Check.due("compile of both", () -> x.compile(), 2);
    Check.due("rows of both", Check.rows(x, 3), "1 0 1; 6 0");
  }

  private static void putRefuses() {
    PassChain x = new PassChain();
    int word = 'a' << 24 | 'a' << 16 | 'a' << 8 | 'a';
    int[] wrong = {0, 5, -1, Integer.MIN_VALUE, Integer.MAX_VALUE};
    for (int n : wrong) {
      Check.due("put with n " + n, Check.of(x.put(word, n)), 0);
    }
    for (int place = 0; place < 4; place++) {
      int[] bytes = {0, 10, 31, 127, 128, 255};
      for (int b : bytes) {
        int bad = word & ~(255 << 8 * place) | b << 8 * place;
        Check.due("put of byte " + b + " at " + place, Check.of(x.put(bad, 4)), 0);
      }
    }
    Check.due("nothing was put", x.count(0), 0);
    Check.due("the least is a character", Check.of(x.put(32, 1)), 1);
    Check.due("the greatest is one", Check.of(x.put(126, 1)), 1);
    Check.due("both are there", x.count(0), 2);
  }

  private static void putUpToTheLimit() {
    PassChain x = new PassChain();
    for (int i = 0; i < 118; i++) {
      Check.due("put " + i, Check.of(x.put('a', 1)), 1);
    }
    Check.due("three are too many", Check.of(x.put('a' << 16 | 'a' << 8 | 'a', 3)), 0);
    Check.due("118 are there", x.count(0), 118);
    Check.due("two fit", Check.of(x.put('a' << 8 | 'a', 2)), 1);
    Check.due("no more fits", Check.of(x.put('a', 1)), 0);
    Check.due("120 are there", x.count(0), 120);
    Check.due("that is no program", () -> x.compile(), Check.ARGUMENT);
    Check.due("the text is empty all the same", x.count(0), 0);
    Check.due("and takes more", Check.of(x.put('a', 1)), 1);
  }
}
