import java.util.NoSuchElementException;

/** What the tests have in common: answers that are due, and texts put into an object. */
final class Check {
  static final long ARGUMENT = Long.MIN_VALUE;
  static final long STATE = Long.MIN_VALUE + 1;
  static final long NO_ELEMENT = Long.MIN_VALUE + 2;

  private static int wrong = 0;
  private static int asked = 0;

  private Check() {
  }

  /** A call whose answer, or exception, is looked at. */
  interface Call {
    long answer();
  }

  /** Makes objects, each as the others. */
  interface Maker {
    PassChain make();
  }

  /** A call of some object. */
  interface Ask {
    long of(PassChain x);
  }

  static long answerOf(Call call) {
    try {
      return call.answer();
    } catch (IllegalArgumentException e) {
      return ARGUMENT;
    } catch (IllegalStateException e) {
      return STATE;
    } catch (NoSuchElementException e) {
      return NO_ELEMENT;
    }
  }

  static long of(boolean answer) {
    return answer ? 1 : 0;
  }

  static void due(String what, Call call, long want) {
    due(what, answerOf(call), want);
  }

  static void due(String what, long got, long want) {
    asked++;
    if (got != want) {
      wrong++;
      System.out.println(what + " answered " + told(got) + ", due is " + told(want));
    }
  }

  static void due(String what, String got, String want) {
    asked++;
    if (!got.equals(want)) {
      wrong++;
      System.out.println(what + " answered\n  " + got + "\ndue is\n  " + want);
    }
  }

  private static String told(long answer) {
    if (answer == ARGUMENT) {
      return "IllegalArgumentException";
    }
    if (answer == STATE) {
      return "IllegalStateException";
    }
    return answer == NO_ELEMENT ? "NoSuchElementException" : Long.toString(answer);
  }

  static boolean write(PassChain x, String text) {
    boolean all = true;
    for (int i = 0; i < text.length(); i++) {
      all &= x.put(text.charAt(i), 1);
    }
    return all;
  }

  static long compile(PassChain x, String text) {
    write(x, text);
    return answerOf(() -> x.compile());
  }

  /** A new object with that program; it is an error if it is none. */
  static PassChain program(String text) {
    PassChain x = new PassChain();
    long answer = compile(x, text);
    if (answer < 0) {
      due("compile of " + text, answer, 0);
    }
    return x;
  }

  /** The items of a part, each as its number and its numbers. */
  static String rows(PassChain x, int part) {
    StringBuilder told = new StringBuilder();
    for (int k = 0; k < x.size(part, 0); k++) {
      told.append(k == 0 ? "" : "; ").append(x.item(part, k, 0));
      for (int what = 1; what <= 4; what++) {
        int number = what;
        int item = k;
        long n = answerOf(() -> x.item(part, item, number));
        if (n == NO_ELEMENT) {
          break;
        }
        told.append(' ').append(n);
      }
    }
    return told.toString();
  }

  static String code(PassChain x) {
    StringBuilder told = new StringBuilder();
    for (int place = 0; place < x.count(2); place++) {
      told.append(place == 0 ? "" : "; ").append(x.code(place, 0));
      told.append(' ').append(x.code(place, 1));
    }
    return told.toString();
  }

  static String printed(PassChain x) {
    StringBuilder told = new StringBuilder();
    for (int k = 0; k < x.count(4); k++) {
      told.append(k == 0 ? "" : " ").append(x.out(k));
    }
    return told.toString();
  }

  private static String seen(PassChain x, int refusedMore) {
    StringBuilder told = new StringBuilder("counts");
    for (int what = 0; what < 7; what++) {
      told.append(' ').append(x.count(what));
    }
    told.append(' ').append(x.count(7) - refusedMore);
    told.append("\n  ").append(program(x)).append("\n  code ").append(code(x));
    return told.append("\n  printed ").append(printed(x)).toString();
  }

  /** The registers and items of all parts. */
  static String program(PassChain x) {
    StringBuilder told = new StringBuilder();
    for (int p = 0; p < 4; p++) {
      told.append("part ").append(p).append(" of ").append(x.size(p, 1)).append(": ");
      told.append(rows(x, p)).append(' ');
    }
    return told.toString();
  }

  /**
   * All that an object shows, and then, by calls that change it, what it holds unseen: its input (as far as its
   * program reads and prints it), the program as it was compiled, and the text.
   */
  private static String all(PassChain x, int refusedMore) {
    StringBuilder told = new StringBuilder(seen(x, refusedMore));
    told.append("\n  a run ends with ").append(x.run(2000)).append(" behind ").append(x.count(5));
    told.append(" and prints ").append(printed(x));
    x.restore();
    told.append("\n  restored ").append(program(x));
    told.append("\n  compiled ").append(answerOf(() -> x.compile()));
    return told.append(' ').append(program(x)).toString();
  }

  /** A call that is refused, and by which nothing changes. */
  static void refused(String what, Maker maker, Ask ask, long want) {
    leaves(what, maker, ask, want, maker);
  }

  /** A change that does not stay: nothing changes but count 7. */
  static void doesNotStay(String what, Maker maker, Ask ask, long want) {
    PassChain x = maker.make();
    due(what, () -> ask.of(x), want);
    due(what + ": count 7", x.count(7), maker.make().count(7) + 1);
    due(what + ": what is left", all(x, 1), all(maker.make(), 0));
  }

  /** A call behind which an object is just as another one. */
  static void leaves(String what, Maker maker, Ask ask, long want, Maker other) {
    PassChain x = maker.make();
    due(what, () -> ask.of(x), want);
    due(what + ": what is left", all(x, 0), all(other.make(), 0));
  }

  static void end() {
    System.out.println(wrong == 0 ? asked + " answers are as due" : wrong + " answers are not as due");
    if (wrong != 0) {
      System.exit(1);
    }
  }
}
