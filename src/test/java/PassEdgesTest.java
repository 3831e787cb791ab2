/** The edges that the five PASSES name, sentence by sentence. */
public final class PassEdgesTest {
  private static final String VARIABLES = "abcdef";

  public static void main(String[] args) {
    knownAtFirst();
    becomeConst();
    unknown();
    unknownByCall();
    ifOfKnown();
    ifOfUnknown();
    whileOfConstants();
    countOfConstants();
    namesBeginAnew();
    namesGoOn();
    namesOfItems();
    leastRegister();
    dead();
    deadAtEnds();
    deadOnWays();
    asManyAsCan();
    hoistWhich();
    hoistWhere();
    hoistReads();
    inlineRegisters();
    inlineUpTo60();
    inlineInOrder();
    overAllParts();
    oneBehindTheOther();
    Check.end();
  }

  /** A pass over a new program: its answer, and the rows of a part then. */
  private static void pass(int kind, String text, long want, int part, String rows) {
    passOf(kind, Check.program(text), text, want, part, rows);
  }

  private static void passOf(int kind, PassChain x, String text, long want, int part, String rows) {
    int stayed = x.count(6);
    int registers = x.size(part, 1);
    Check.due("pass " + kind + " of " + text, () -> x.pass(kind), want);
    Check.due("rows behind pass " + kind + " of " + text, Check.rows(x, part), rows);
    Check.due("it stayed", x.count(6), stayed + 1);
    if (kind != 4) {
      Check.due("registers behind pass " + kind + " of " + text, x.size(part, 1), registers);
      Check.due("letters of " + text, x.count(2), Check.code(x).split(";").length);
    }
  }

  /** The main part of a new program, of which a touch that stays has changed a number. */
  private static PassChain touched(String text, int... touches) {
    PassChain x = Check.program(text);
    for (int i = 0; i + 3 < touches.length; i += 4) {
      int at = i;
      Check.due("touch of " + text,
          () -> Check.of(x.touch(touches[at], touches[at + 1], touches[at + 2], touches[at + 3])), 1);
    }
    return x;
  }

  private static void knownAtFirst() {
    for (int r = 0; r < 6; r++) {
      char v = VARIABLES.charAt(r);
      char other = VARIABLES.charAt((r + 1) % 6);
      pass(0, other + "=" + v + ";", 1, 3, "0 " + (r + 1) % 6 + " 0");
      pass(0, "P{" + other + "=" + v + ";}", 0, 0, "1 " + (r + 1) % 6 + " " + r);
    }
    passOf(0, touched("a=b;", 3, 0, 1, 6), "a=x", 1, 3, "0 0 0");
    passOf(0, touched("a=b;!1;", 3, 0, 1, 7), "own", 1, 3, "0 0 0; 0 7 1; 6 7");
    passOf(0, touched("P{a=b;!1;}", 0, 0, 1, 6), "P's x", 0, 0, "1 0 6; 0 7 1; 6 7");
    passOf(0, touched("P{a=b;!1;}", 0, 0, 1, 7), "P's own", 0, 0, "1 0 7; 0 7 1; 6 7");
    pass(0, "P{}Q{a=x;}", 0, 1, "1 0 6");
    pass(0, "P{}Q{}R{a=x;b=2;c=b;}", 2, 2, "1 0 6; 0 7 2; 0 1 2; 0 2 2");
    pass(0, "Ia{!1;}{!2;}", 1, 3, "0 8 2; 6 8");
    pass(0, "P{Ia{!1;}{!2;}}", 0, 0, "8 0; 0 7 1; 6 7; 9; 0 8 2; 6 8; 12");
  }

  private static void becomeConst() {
    pass(0, "?a;!a*0;", 0, 3, "5 0; 0 7 0; 2 8 0 7 2; 6 8");
    pass(0, "?a;!0*a;", 0, 3, "5 0; 0 7 0; 2 8 7 0 2; 6 8");
    pass(0, "?a;!a-a;", 0, 3, "5 0; 2 7 0 0 1; 6 7");
    pass(0, "!0/3;", 1, 3, "0 7 0; 0 8 3; 0 9 0; 6 9");
    pass(0, "!3/0;", 0, 3, "0 7 3; 0 8 0; 2 9 7 8 3; 6 9");
    pass(0, "!0/0;", 0, 3, "0 7 0; 0 8 0; 2 9 7 8 3; 6 9");
    pass(0, "!3/1;", 1, 3, "0 7 3; 0 8 1; 0 9 3; 6 9");
    pass(0, "!65536*32768/-1;", 3, 3,
        "0 7 65536; 0 8 32768; 0 9 -2147483648; 0 10 0; 0 11 1; 0 12 -1; 0 13 -2147483648; 6 13");
    pass(0, "a=1;a=a+1;a=a+1;", 5, 3, "0 7 1; 0 0 1; 0 8 1; 0 9 2; 0 0 2; 0 10 1; 0 11 3; 0 0 3");
    pass(0, "!1;", 0, 3, "0 7 1; 6 7");
    pass(0, "A[1+1]=2+2;!A[1+1];", 3, 3, "0 7 1; 0 8 1; 0 9 2; 0 10 2; 0 11 2; 0 12 4; 4 9 12; 0 13 1; 0 14 1; "
        + "0 15 2; 3 16 15; 6 16");
  }

  private static void unknown() {
    pass(0, "a=1;?a;b=a;", 1, 3, "0 7 1; 0 0 1; 5 0; 1 1 0");
    pass(0, "a=1;a=A[0];b=a;", 1, 3, "0 7 1; 0 0 1; 0 8 0; 3 9 8; 1 0 9; 1 1 0");
    pass(0, "?c;a=1;a=c;b=a;", 1, 3, "5 2; 0 7 1; 0 0 1; 1 0 2; 1 1 0");
    passOf(0, touched("?c;!c+1;b=a;", 3, 4, 1, 8), "b = c + 1", 0, 3, "5 2; 0 7 1; 2 8 2 7 0; 6 8; 1 1 8");
    pass(0, "a=1/0;b=a;c=a+1;", 0, 3, "0 7 1; 0 8 0; 2 9 7 8 3; 1 0 9; 1 1 0; 0 10 1; 2 11 0 10 0; 1 2 11");
    pass(0, "?a;a=1;b=a;", 2, 3, "5 0; 0 7 1; 0 0 1; 0 1 1");
    pass(0, "A[0]=1;b=a;", 1, 3, "0 7 0; 0 8 1; 4 7 8; 0 1 0");
    pass(0, "!a;b=a;", 1, 3, "6 0; 0 1 0");
  }

  private static void unknownByCall() {
    for (int r = 0; r < 6; r++) {
      char v = VARIABLES.charAt(r);
      int d = r == 0 ? 1 : 0;
      pass(0, "P{}P(1);" + VARIABLES.charAt(d) + "=" + v + ";", 0, 3, "0 7 1; 7 7 0; 1 " + d + " " + r);
    }
    String text = "P{}a=5;P(1);b=c;";
    passOf(0, touched(text, 3, 4, 1, 6), text, 2, 3, "0 7 5; 0 0 5; 0 8 1; 7 8 0; 0 1 0");
    passOf(0, touched(text, 3, 4, 1, 7), text, 2, 3, "0 7 5; 0 0 5; 0 8 1; 7 8 0; 0 1 5");
    passOf(0, touched(text, 3, 4, 1, 8), text, 2, 3, "0 7 5; 0 0 5; 0 8 1; 7 8 0; 0 1 1");
  }

  private static void ifOfKnown() {
    String[] numbers = {"0", "1", "2", "99999", "-1", "-65536*32768", "1-1", "1<1", "1=1"};
    boolean[] former = {false, true, true, true, true, true, false, false, true};
    for (int i = 0; i < numbers.length; i++) {
      PassChain x = Check.program("I" + numbers[i] + "{?a;}{?b;}");
      int folds = x.size(3, 0) - 5;
      x.pass(0);
      Check.due("items left of I" + numbers[i], x.size(3, 0), folds + 1);
      Check.due("what is done of I" + numbers[i], x.item(3, folds, 1), former[i] ? 0 : 1);
    }
    pass(0, "I0{?a;b=1;}{}c=a;d=b;", 3, 3, "0 7 0; 0 2 0; 0 3 0");
    pass(0, "I1{}{?a;b=1;}c=a;d=b;", 3, 3, "0 7 1; 0 2 0; 0 3 0");
    pass(0, "I1{b=1;}{}d=b;", 3, 3, "0 7 1; 0 8 1; 0 1 1; 0 3 1");
    pass(0, "I0{}{}", 1, 3, "0 7 0");
    pass(0, "I1{I0{?a;}{?b;}}{I0{?c;}{?d;}}", 2, 3, "0 7 1; 0 8 0; 5 1");
    pass(0, "I1{?e;Ie{?a;}{?b;}}{}", 1, 3, "0 7 1; 5 4; 8 4; 5 0; 9; 5 1; 12");
    pass(0, "?e;Ie{I1{?a;}{?b;}}{I0{?c;}{?d;}}", 2, 3, "5 4; 8 4; 0 7 1; 5 0; 9; 0 8 0; 5 3; 12");
    pass(0, "I1{Wa{?a;}}{?b;}?c;", 1, 3, "0 7 1; 10; 11 0; 5 0; 12; 5 2");
    pass(0, "Wf{I1{?a;}{?b;}}?c;", 1, 3, "10; 11 5; 0 7 1; 5 0; 12; 5 2");
  }

  private static void ifOfUnknown() {
    pass(0, "?a;Ia{b=1;}{b=1;}c=b;", 3, 3, "5 0; 8 0; 0 7 1; 0 1 1; 9; 0 8 1; 0 1 1; 12; 0 2 1");
    pass(0, "?a;Ia{b=1;}{b=2;}c=b;", 2, 3, "5 0; 8 0; 0 7 1; 0 1 1; 9; 0 8 2; 0 1 2; 12; 1 2 1");
    pass(0, "?a;Ia{b=1;}{}c=b;", 1, 3, "5 0; 8 0; 0 7 1; 0 1 1; 9; 12; 1 2 1");
    pass(0, "?a;Ia{}{b=1;}c=b;", 1, 3, "5 0; 8 0; 9; 0 7 1; 0 1 1; 12; 1 2 1");
    pass(0, "?a;Ia{?b;}{b=1;}c=b;", 1, 3, "5 0; 8 0; 5 1; 9; 0 7 1; 0 1 1; 12; 1 2 1");
    pass(0, "?a;Ia{b=1;}{?b;}c=b;", 1, 3, "5 0; 8 0; 0 7 1; 0 1 1; 9; 5 1; 12; 1 2 1");
    pass(0, "?a;Ia{?b;}{?b;}c=b;", 0, 3, "5 0; 8 0; 5 1; 9; 5 1; 12; 1 2 1");
    pass(0, "?a;Ia{}{}c=b;", 1, 3, "5 0; 8 0; 9; 12; 0 2 0");
    pass(0, "?a;b=1;Ia{b=2;}{c=b;}", 3, 3, "5 0; 0 7 1; 0 1 1; 8 0; 0 8 2; 0 1 2; 9; 0 2 1; 12");
    pass(0, "?a;Ia{b=1;Ia{c=1;}{c=1;}}{b=1;c=1;}d=b;e=c;", 7, 3, "5 0; 8 0; 0 7 1; 0 1 1; 8 0; 0 8 1; 0 2 1; 9; "
        + "0 9 1; 0 2 1; 12; 9; 0 10 1; 0 1 1; 0 11 1; 0 2 1; 12; 0 3 1; 0 4 1");
    pass(0, "?a;Ia{a=0;}{a=0;}Ia{?b;}{?c;}", 3, 3, "5 0; 8 0; 0 7 0; 0 0 0; 9; 0 8 0; 0 0 0; 12; 5 2");
    for (int r = 0; r < 6; r++) {
      char v = VARIABLES.charAt(r);
      int s = r == 0 ? 1 : 0;
      int d = r == 2 ? 3 : 2;
      String read = "?" + VARIABLES.charAt(s) + ";I" + VARIABLES.charAt(s) + "{";
      String move = VARIABLES.charAt(d) + "=" + v + ";";
      String rows = "5 " + s + "; 8 " + s + "; 0 7 1; 0 " + r + " 1; 9; 12; 1 " + d + " " + r;
      pass(0, read + v + "=1;}{}" + move, 1, 3, rows);
      pass(0, read + "}{}" + move, 1, 3, "5 " + s + "; 8 " + s + "; 9; 12; 0 " + d + " 0");
    }
  }

  private static void whileOfConstants() {
    pass(0, "Wa{a=0;}b=a;", 1, 3, "10; 11 0; 0 7 0; 0 0 0; 12; 1 1 0");
    pass(0, "Wb{}c=a;", 1, 3, "10; 11 1; 12; 0 2 0");
    pass(0, "Wb{?a;}c=a;", 0, 3, "10; 11 1; 5 0; 12; 1 2 0");
    pass(0, "Wb{c=a;?a;}", 0, 3, "10; 11 1; 1 2 0; 5 0; 12");
    pass(0, "Wb{c=a;}", 1, 3, "10; 11 1; 0 2 0; 12");
    pass(0, "Wc=1{c=2;d=c;}e=c;", 2, 3,
        "10; 0 7 1; 2 8 2 7 5; 11 8; 0 9 2; 0 2 2; 0 3 2; 12; 1 4 2");
    pass(0, "Wb{Wc{?a;}d=a;}e=a;", 0, 3, "10; 11 1; 10; 11 2; 5 0; 12; 1 3 0; 12; 1 4 0");
    pass(0, "Wb{a=1;Wc{d=a;}}e=a;", 2, 3, "10; 11 1; 0 7 1; 0 0 1; 10; 11 2; 0 3 1; 12; 12; 1 4 0");
    pass(0, "P{}Wb{c=a;P(1);}", 0, 3, "10; 11 1; 1 2 0; 0 7 1; 7 7 0; 12");
    passOf(0, touched("P{}Wb{P(1);}c=a;", 3, 5, 1, 6), "x behind WHILE", 1, 3, "10; 11 1; 0 7 1; 7 7 0; 12; 0 2 0");
    passOf(0, touched("W1{?a;}b=c;", 3, 5, 1, 7), "known at DO", 1, 3, "10; 0 7 1; 11 7; 5 0; 12; 0 1 1");
    pass(0, "?a;Wa{Ia{b=1;}{}}c=b;", 1, 3, "5 0; 10; 11 0; 8 0; 0 7 1; 0 1 1; 9; 12; 12; 1 2 1");
    pass(0, "W0{!1+1;}", 1, 3, "10; 0 7 0; 11 7; 0 8 1; 0 9 1; 0 10 2; 6 10; 12");
  }

  private static void countOfConstants() {
    pass(0, "", 0, 3, "");
    pass(0, "I1{a=1;}{a=2;b=a;I1{}{}}", 2, 3, "0 7 1; 0 8 1; 0 0 1");
    pass(0, "P{a=1;}Q{I2{}{!3;}}b=1;", 3, 3, "0 7 1; 0 1 1");
    PassChain x = Check.program("a=1+2;");
    Check.due("two became others", x.pass(0), 2);
    Check.due("and do so no more", x.pass(0), 0);
  }

  /** Behind CALL, IF, ELSE, WHILE, DO and END no register has the name of another. */
  private static void namesBeginAnew() {
    pass(1, "P{}b=a;P(c);!b;", 0, 3, "1 1 0; 7 2 0; 6 1");
    pass(1, "b=a;Ic{!b;}{}", 0, 3, "1 1 0; 8 2; 6 1; 9; 12");
    pass(1, "Ic{b=a;}{!b;}", 0, 3, "8 2; 1 1 0; 9; 6 1; 12");
    pass(1, "Ic{}{b=a;}!b;", 0, 3, "8 2; 9; 1 1 0; 12; 6 1");
    pass(1, "b=a;Wb{}", 0, 3, "1 1 0; 10; 11 1; 12");
    pass(1, "Wa+b{!a+b;}", 0, 3, "10; 2 7 0 1 0; 11 7; 2 8 0 1 0; 6 8; 12");
    pass(1, "Wc{b=a;}!b;", 0, 3, "10; 11 2; 1 1 0; 12; 6 1");
    pass(1, "!5;Ic{!5;}{}", 0, 3, "0 7 5; 6 7; 8 2; 0 8 5; 6 8; 9; 12");
    pass(1, "P{}!A[a];P(b);!A[a];", 0, 3, "3 7 0; 6 7; 7 1 0; 3 8 0; 6 8");
    pass(1, "P{b=a;}Q{!b;}b=a;", 0, 1, "6 1");
    // A STORE of former items is not one since then; a LOAD ahead of it is forgotten all the same.
    pass(1, "!A[a];A[b]=c;Id{}{}!A[a];!A[a];", 2, 3, "3 7 0; 6 7; 4 1 2; 8 3; 9; 12; 3 8 0; 6 8; 1 9 8; 6 8");
  }

  private static void namesGoOn() {
    pass(1, "b=a;!c;!b;", 1, 3, "1 1 0; 6 2; 6 0");
    pass(1, "b=a;A[c]=d;!b;", 1, 3, "1 1 0; 4 2 3; 6 0");
    pass(1, "b=a;?c;!b;", 1, 3, "1 1 0; 5 2; 6 0");
    pass(1, "b=a;!A[c];!b;", 1, 3, "1 1 0; 3 7 2; 6 7; 6 0");
    pass(1, "b=a;!1;!b;", 1, 3, "1 1 0; 0 7 1; 6 7; 6 0");
    pass(1, "b=a;!c+d;!b;", 1, 3, "1 1 0; 2 7 2 3 0; 6 7; 6 0");
  }

  private static void namesOfItems() {
    pass(1, "!5;!6;", 0, 3, "0 7 5; 6 7; 0 8 6; 6 8");
    pass(1, "!5;!5;!5;", 2, 3, "0 7 5; 6 7; 0 8 5; 6 7; 0 9 5; 6 7");
    char[] operators = {'+', '-', '*', '/', '<', '='};
    for (int o = 0; o < 6; o++) {
      for (int other = 0; other < 6; other++) {
        String rows = "2 7 0 1 " + o + "; 6 7; " + (o == other ? "1 8 7; 6 7" : "2 8 0 1 " + other + "; 6 8");
        pass(1, "!a" + operators[o] + "b;!a" + operators[other] + "b;", o == other ? 2 : 0, 3, rows);
      }
      pass(1, "!a" + operators[o] + "b;!b" + operators[o] + "a;", 0, 3,
          "2 7 0 1 " + o + "; 6 7; 2 8 1 0 " + o + "; 6 8");
    }
    pass(1, "!A[a];!A[b];", 0, 3, "3 7 0; 6 7; 3 8 1; 6 8");
    pass(1, "!A[a];!A[a];", 2, 3, "3 7 0; 6 7; 1 8 7; 6 7");
    pass(1, "A[a]=b;!A[a];!A[a];", 2, 3, "4 0 1; 3 7 0; 6 7; 1 8 7; 6 7");
    pass(1, "!A[a];A[b]=c;!A[a];A[b]=c;!A[a];", 0, 3, "3 7 0; 6 7; 4 1 2; 3 8 0; 6 8; 4 1 2; 3 9 0; 6 9");
    pass(1, "?a;!a;?a;!a;", 0, 3, "5 0; 6 0; 5 0; 6 0");
    pass(1, "?a;?b;!b;", 0, 3, "5 0; 5 1; 6 1");
    pass(1, "!a+b;?a;!a+b;", 0, 3, "2 7 0 1 0; 6 7; 5 0; 2 8 0 1 0; 6 8");
    pass(1, "!a+b;b=c;!a+b;", 0, 3, "2 7 0 1 0; 6 7; 1 1 2; 2 8 0 1 0; 6 8");
  }

  private static void leastRegister() {
    pass(1, "c=f;b=f;!f;!c;", 3, 3, "1 2 5; 1 1 2; 6 1; 6 1");
    pass(1, "c=f;b=f;a=c;!b;", 3, 3, "1 2 5; 1 1 2; 1 0 1; 6 0");
    pass(1, "b=a;A[b]=b;", 1, 3, "1 1 0; 4 0 0");
    pass(1, "b=a;!b+b;", 1, 3, "1 1 0; 2 7 0 0 0; 6 7");
    pass(1, "b=a;!A[b];", 1, 3, "1 1 0; 3 7 0; 6 7");
    pass(1, "b=a;Ib{}{}", 1, 3, "1 1 0; 8 0; 9; 12");
    pass(1, "P{}b=a;P(b);", 1, 3, "1 1 0; 7 0 0");
    pass(1, "b=a;c=b;", 1, 3, "1 1 0; 1 2 0");
    passOf(1, touched("Wa+b{}", 3, 2, 0, 7), "DO", 0, 3, "10; 2 7 0 1 0; 11 7; 12");
    pass(1, "W1=1{}", 1, 3, "10; 0 7 1; 0 8 1; 2 9 7 7 5; 11 9; 12");
    // What a register was named before it is written is what counts when it is read.
    pass(1, "b=a;a=c;!b;!a;", 0, 3, "1 1 0; 1 0 2; 6 1; 6 0");
    // A WORK whose name its own register has becomes a MOVE of itself.
    passOf(1, touched("!a+b;!a+b;", 3, 2, 0, 7), "a WORK into 7 again", 1, 3, "2 7 0 1 0; 6 7; 1 7 7; 6 8");
    // It reads another one and becomes a MOVE: that counts once.
    pass(1, "c=a;!a+b;!c+b;", 2, 3, "1 2 0; 2 7 0 1 0; 6 7; 1 8 7; 6 7");
  }

  private static void dead() {
    pass(2, "a=b;", 1, 3, "");
    pass(2, "!1;a=2;", 2, 3, "0 7 1; 6 7");
    char[] operators = {'+', '-', '*', '/', '<', '='};
    for (int o = 0; o < 6; o++) {
      boolean stays = o == 3;
      pass(2, "c=a" + operators[o] + "b;", stays ? 1 : 2, 3, stays ? "2 7 0 1 3" : "");
    }
    pass(2, "c=A[a];", 1, 3, "3 7 0");
    pass(2, "a=1;c=A[a];", 1, 3, "0 7 1; 1 0 7; 3 8 0");
    pass(2, "?a;", 0, 3, "5 0");
    pass(2, "a=1;?a;", 2, 3, "5 0");
    pass(2, "a=1;A[a]=a;", 0, 3, "0 7 1; 1 0 7; 4 0 0");
    pass(2, "a=1;b=1/a;", 1, 3, "0 7 1; 1 0 7; 0 8 1; 2 9 8 0 3");
    pass(2, "a=1;a=a+1;!a;", 0, 3, "0 7 1; 1 0 7; 0 8 1; 2 9 0 8 0; 1 0 9; 6 0");
    pass(2, "a=1;a=2;!a;", 2, 3, "0 8 2; 1 0 8; 6 0");
    pass(2, "a=1;Ia{}{}", 0, 3, "0 7 1; 1 0 7; 8 0; 9; 12");
    pass(2, "a=1;Wa{}", 0, 3, "0 7 1; 1 0 7; 10; 11 0; 12");
    // Those without a number read none, and those with one that one alone.
    for (int r = 0; r < 6; r++) {
      char v = VARIABLES.charAt(r);
      int s = r == 0 ? 1 : 0;
      char other = VARIABLES.charAt(s);
      pass(2, v + "=1;I" + other + "{}{}", 2, 3, "8 " + s + "; 9; 12");
      pass(2, v + "=1;W" + other + "{}", 2, 3, "10; 11 " + s + "; 12");
      pass(2, v + "=1;!" + other + ";", 2, 3, "6 " + s);
      pass(2, v + "=1;A[" + other + "]=" + other + ";", 2, 3, "4 " + s + " " + s);
      pass(2, v + "=1;!A[" + other + "];", 2, 3, "3 8 " + s + "; 6 8");
      pass(2, v + "=1;?" + other + ";", 2, 3, "5 " + s);
    }
  }

  /** A CALL reads 0 .. 5, and so does the end of a procedure; the end of the main part does not. */
  private static void deadAtEnds() {
    for (int r = 0; r < 6; r++) {
      char v = VARIABLES.charAt(r);
      String both = "0 7 1; 1 " + r + " 7";
      pass(2, "P{}" + v + "=1;P(b);", 0, 3, both + "; 7 1 0");
      pass(2, "P{" + v + "=1;}", 0, 0, both);
      pass(2, "P{}Q{" + v + "=1;}", 0, 1, both);
      pass(2, "P{}Q{}R{" + v + "=1;}", 0, 2, both);
      pass(2, v + "=1;", 2, 3, "");
      pass(2, "P{}P(b);" + v + "=1;", 2, 3, "7 1 0");
    }
    passOf(2, touched("P{a=1;a=a;}", 0, 1, 0, 6, 0, 2, 1, 6), "x at the end", 0, 0, "0 7 1; 1 6 7; 1 0 6");
    passOf(2, touched("P{a=1;}", 0, 1, 0, 6), "x that nobody reads", 2, 0, "");
    passOf(2, touched("P{a=1;}", 0, 1, 0, 7), "its own that nobody reads", 2, 0, "");
    passOf(2, touched("P{}a=1;P(b);", 3, 1, 0, 6), "x ahead of a CALL", 2, 3, "7 1 0");
    pass(2, "P{}P(1);", 0, 3, "0 7 1; 7 7 0");
    pass(2, "P{}Q{P(x);}", 0, 1, "7 6 0");
    pass(2, "P{}a=1;P(2);a=3;", 2, 3, "0 7 1; 1 0 7; 0 8 2; 7 8 0");
    // A CALL writes nothing for sure.
    pass(2, "P{}b=1;P(2);!b;", 0, 3, "0 7 1; 1 1 7; 0 8 2; 7 8 0; 6 1");
  }

  private static void deadOnWays() {
    pass(2, "b=1;Ia{!b;}{}", 0, 3, "0 7 1; 1 1 7; 8 0; 6 1; 9; 12");
    pass(2, "b=1;Ia{}{!b;}", 0, 3, "0 7 1; 1 1 7; 8 0; 9; 6 1; 12");
    pass(2, "b=1;Ia{b=2;}{b=3;}", 6, 3, "8 0; 9; 12");
    pass(2, "b=1;Ia{b=2;!b;}{b=3;!b;}", 2, 3, "8 0; 0 8 2; 1 1 8; 6 1; 9; 0 9 3; 1 1 9; 6 1; 12");
    pass(2, "Ia{b=1;}{b=2;}!b;", 0, 3, "8 0; 0 7 1; 1 1 7; 9; 0 8 2; 1 1 8; 12; 6 1");
    pass(2, "Ia{b=1;}{!b;}", 2, 3, "8 0; 9; 6 1; 12");
    pass(2, "Wa{!b;b=1;}", 0, 3, "10; 11 0; 6 1; 0 7 1; 1 1 7; 12");
    pass(2, "Wa{b=1;!b;}", 0, 3, "10; 11 0; 0 7 1; 1 1 7; 6 1; 12");
    pass(2, "b=1;Wa{b=2;!b;}", 2, 3, "10; 11 0; 0 8 2; 1 1 8; 6 1; 12");
    pass(2, "b=1;Wa{}!b;", 0, 3, "0 7 1; 1 1 7; 10; 11 0; 12; 6 1");
    pass(2, "Wa{b=1;}!b;", 0, 3, "10; 11 0; 0 7 1; 1 1 7; 12; 6 1");
    pass(2, "b=1;Wb{b=0;}", 0, 3, "0 7 1; 1 1 7; 10; 11 1; 0 8 0; 1 1 8; 12");
    pass(2, "Wa{Wb{c=1;}!c;}", 0, 3, "10; 11 0; 10; 11 1; 0 7 1; 1 2 7; 12; 6 2; 12");
    pass(2, "Wa{!c;Wb{c=1;}}", 0, 3, "10; 11 0; 6 2; 10; 11 1; 0 7 1; 1 2 7; 12; 12");
    pass(2, "Wa{c=2;Wb{c=1;}c=3;!c;}", 4, 3, "10; 11 0; 10; 11 1; 12; 0 9 3; 1 2 9; 6 2; 12");
  }

  private static void asManyAsCan() {
    pass(2, "a=1;b=a+1;c=b+1;d=c+1;", 11, 3, "");
    pass(2, "Wa{b=b+1;}", 3, 3, "10; 11 0; 12");
    pass(2, "Wa{b=c;c=d;d=b;}", 3, 3, "10; 11 0; 12");
    pass(2, "Wa{b=c;c=d;d=b;!d;}", 0, 3, "10; 11 0; 1 1 2; 1 2 3; 1 3 1; 6 3; 12");
    pass(2, "Wa{b=c;c=d;d=b;}!b;", 0, 3, "10; 11 0; 1 1 2; 1 2 3; 1 3 1; 12; 6 1");
    PassChain x = Check.program("a=1;b=a;c=b;");
    Check.due("all at once", x.pass(2), 4);
    Check.due("none is left", x.pass(2), 0);
  }

  private static void hoistWhich() {
    char[] operators = {'+', '-', '*', '/', '<', '='};
    for (int o = 0; o < 6; o++) {
      String work = "2 7 1 2 " + o;
      pass(3, "Wb" + operators[o] + "c{}", o == 3 ? 0 : 1, 3,
          o == 3 ? "10; " + work + "; 11 7; 12" : work + "; 10; 11 7; 12");
    }
    pass(3, "W1{}", 1, 3, "0 7 1; 10; 11 7; 12");
    pass(3, "WA[a]{}", 0, 3, "10; 3 7 0; 11 7; 12");
    pass(3, "Wa{}", 0, 3, "10; 11 0; 12");
    pass(3, "W1{!2;}", 1, 3, "0 7 1; 10; 11 7; 0 8 2; 6 8; 12");
    pass(3, "W1+A[2]{}", 2, 3, "0 7 1; 0 8 2; 10; 3 9 8; 2 10 7 9 0; 11 10; 12");
    // A MOVE stands there only behind the pass COMMON.
    PassChain x = Check.program("Wa+b=(a+b){}");
    Check.due("COMMON", x.pass(1), 2);
    passOf(3, x, "a MOVE", 3, 3, "2 7 0 1 0; 1 8 7; 2 9 7 7 5; 10; 11 9; 12");
  }

  /** Registers from 7 on alone: into 6 no item goes ahead, nor one that another writes, too. */
  private static void hoistWhere() {
    passOf(3, touched("W0{}", 3, 2, 0, 6, 3, 1, 0, 6), "into 6", 0, 3, "10; 0 6 0; 11 6; 12");
    passOf(3, touched("W0{}", 3, 2, 0, 5, 3, 1, 0, 5), "into 5", 0, 3, "10; 0 5 0; 11 5; 12");
    passOf(3, touched("W0{}", 3, 1, 0, 7), "into 7", 1, 3, "0 7 0; 10; 11 7; 12");
    passOf(3, touched("Wa<3{b=1;}", 3, 4, 0, 7), "another behind DO", 0, 3,
        "10; 0 7 3; 2 8 0 7 4; 11 8; 0 7 1; 1 1 9; 12");
    passOf(3, touched("W0=0{}", 3, 2, 0, 7, 3, 3, 2, 7), "another ahead of DO", 0, 3,
        "10; 0 7 0; 0 7 0; 2 9 7 7 5; 11 9; 12");
    passOf(3, touched("W1{}b=2;", 3, 4, 0, 7), "another behind END", 1, 3, "0 7 1; 10; 11 7; 12; 0 7 2; 1 1 8");
    passOf(3, touched("b=2;W1{}", 3, 0, 0, 8, 3, 1, 1, 8), "another ahead of WHILE", 1, 3,
        "0 8 2; 1 1 8; 0 8 1; 10; 11 8; 12");
  }

  private static void hoistReads() {
    for (int r = 0; r < 6; r++) {
      char v = VARIABLES.charAt(r);
      String work = "2 8 " + r + " 7 0";
      pass(3, "P{}W" + v + "+1{P(1);}", 1, 3, "0 7 1; 10; " + work + "; 11 8; 0 9 1; 7 9 0; 12");
      pass(3, "W" + v + "+1{?" + v + ";}", 1, 3, "0 7 1; 10; " + work + "; 11 8; 5 " + r + "; 12");
      pass(3, "W" + v + "+1{}?" + v + ";", 2, 3, "0 7 1; " + work + "; 10; 11 8; 12; 5 " + r);
    }
    pass(3, "P{}Q{Wx+1{P(2);}}", 2, 1, "0 7 1; 2 8 6 7 0; 10; 11 8; 0 9 2; 7 9 0; 12");
    pass(3, "Wa+(b+(c+1)){?b;}", 2, 3, "0 7 1; 2 8 2 7 0; 10; 2 9 1 8 0; 2 10 0 9 0; 11 10; 5 1; 12");
    pass(3, "Wa{Wb+1{?c;}}", 2, 3, "10; 11 0; 0 7 1; 2 8 1 7 0; 10; 11 8; 5 2; 12; 12");
    pass(3, "Wa+1{Wb+1{?b;}}", 3, 3, "0 7 1; 2 8 0 7 0; 10; 11 8; 0 9 1; 10; 2 10 1 9 0; 11 10; 5 1; 12; 12");
    pass(3, "Wa+1{Wb+1{?a;}}", 3, 3, "0 7 1; 10; 2 8 0 7 0; 11 8; 0 9 1; 2 10 1 9 0; 10; 11 10; 5 0; 12; 12");
    pass(3, "W1{}W2{}", 2, 3, "0 7 1; 10; 11 7; 12; 0 8 2; 10; 11 8; 12");
    pass(3, "Ia{W1{}}{W2{}}", 2, 3, "8 0; 0 7 1; 10; 11 7; 12; 9; 0 8 2; 10; 11 8; 12; 12");
    pass(3, "!1+2;", 0, 3, "0 7 1; 0 8 2; 2 9 7 8 0; 6 9");
  }

  private static void inlineRegisters() {
    pass(4, "P{}P(a);", 1, 3, "1 7 0");
    pass(4, "P{!x;}P(a);P(b);", 2, 3, "1 7 0; 6 7; 1 8 1; 6 8");
    pass(4, "P{a=x;}P(a);", 1, 3, "1 7 0; 1 0 7");
    pass(4, "P{!5;}P(6);", 1, 3, "0 7 6; 1 8 7; 0 9 5; 6 9");
    pass(4, "P{f=x;!f;}P(f);", 1, 3, "1 7 5; 1 5 7; 6 5");
    pass(4, "P{}Q{P(x);}", 1, 1, "1 7 6");
    pass(4, "P{}", 0, 0, "");
    passOf(4, touched("P{a=1;!a;}P(b);", 0, 2, 0, 7), "own", 1, 3, "1 7 1; 0 8 1; 1 0 8; 6 8");
    PassChain x = touched("P{a=1;}P(b);", 0, 1, 0, 6);
    Check.due("a P that writes its x", x.pass(4), 1);
    Check.due("has it at n", Check.rows(x, 3), "1 7 1; 0 8 1; 1 7 8");
    Check.due("registers", x.size(3, 1), 9);
    int[][] more = {{0, 8}, {1, 9}, {2, 10}, {3, 11}};
    for (int[] one : more) {
      PassChain y = Check.program("P{" + "!1;".repeat(one[0]) + "}P(a);");
      y.pass(4);
      Check.due("registers with " + one[0], y.size(3, 1), one[1]);
      Check.due("those of P stay", y.size(0, 1), 7 + one[0]);
    }
  }

  /** The main part has 7 and more registers, P 6 and more that it brings: together 59, 60 or 61. */
  private static void inlineUpTo60() {
    for (int brings = 51; brings <= 54; brings++) {
      String p = "P{!1" + "+1".repeat((brings - 2) / 2) + ";" + (brings % 2 == 0 ? "" : "!1;") + "}";
      PassChain x = Check.program(p + "P(a);");
      Check.due("registers of P", x.size(0, 1), 6 + brings);
      boolean fits = 7 + brings <= 60;
      Check.due(brings + " more", x.pass(4), fits ? 1 : 0);
      Check.due("registers with " + brings, x.size(3, 1), fits ? 7 + brings : 7);
      Check.due("the item with " + brings, x.item(3, 0, 0), fits ? 1 : 7);
      PassChain y = Check.program(p + "P(a);!1;");
      boolean fitsBesideOne = 8 + brings <= 60;
      Check.due(brings + " more beside one", y.pass(4), fitsBesideOne ? 1 : 0);
      Check.due("registers beside one", y.size(3, 1), fitsBesideOne ? 8 + brings : 8);
    }
    PassChain z = Check.program("P{!1" + "+1".repeat(13) + ";}Q{!2;}P(a);P(b);Q(c);P(d);");
    Check.due("the second and the last do not fit", z.pass(4), 2);
    Check.due("registers then", z.size(3, 1), 7 + 28 + 2);
    Check.due("rows then", Check.rows(z, 3).replaceFirst(".*; 6 34; ", ""), "7 1 0; 1 35 2; 0 36 2; 6 36; 7 3 0");
    Check.due("nor do they then", z.pass(4), 0);
    z.run(2000);
    Check.due("they print", Check.printed(z), "14 14 2 14");
  }

  private static void inlineInOrder() {
    PassChain x = Check.program("P{!x;}Q{P(x);P(1);}R{Q(x);}R(2);");
    Check.due("each CALL once", x.pass(4), 4);
    Check.due("Q has P's", Check.rows(x, 1), "1 8 6; 6 8; 0 7 1; 1 9 7; 6 9");
    Check.due("R has Q's as it is by then", Check.rows(x, 2), "1 7 6; 1 9 7; 6 9; 0 8 1; 1 10 8; 6 10");
    Check.due("the main part has R's", Check.rows(x, 3), "0 7 2; 1 8 7; 1 9 8; 1 11 9; 6 11; 0 10 1; 1 12 10; 6 12");
    Check.due("registers", x.size(3, 1), 13);
    pass(4, "P{!x;}Wa{Ib{P(1);}{P(2);}}", 2, 3,
        "10; 11 0; 8 1; 0 7 1; 1 9 7; 6 9; 9; 0 8 2; 1 10 8; 6 10; 12; 12");
  }

  private static void overAllParts() {
    String text = "P{a=1;!a;}Q{b=1;!b;}R{c=1;!c;}d=1;!d;";
    Check.due("CONSTANTS", Check.program(text).pass(0), 4);
    Check.due("COMMON", Check.program(text).pass(1), 0);
    Check.due("DEAD", Check.program(text).pass(2), 0);
    String loops = "P{W1{}}Q{W2{}}R{W3{}}W4{}";
    Check.due("HOIST", Check.program(loops).pass(3), 4);
    Check.due("INLINE", Check.program("P{}Q{P(a);}R{P(a);}P(a);").pass(4), 3);
    Check.due("COMMON of all", Check.program("P{b=a;!b;}Q{b=a;!b;}R{b=a;!b;}b=a;!b;").pass(1), 4);
    Check.due("DEAD of all", Check.program("P{a=a+0;a=1;}Q{b=1;b=2;}R{c=1;c=2;}d=1;").pass(2), 3 + 2 + 2 + 2);
  }

  /** What a pass found in a part, or in a program before, does not count in another. */
  private static void oneBehindTheOther() {
    String[] texts = {"I1{?a;}{?b;}", "?a;Ia{?a;}{?b;}", "?a;Ia{b=1;}{b=2;}!b;", "a=1;b=2;c=3;",
      "a=1;b=2;c=3;!a+b+c;", "WA[0]{}", "W1+2{}", "P{WA[0]{}}W1+2{}", "P{a=1;a=2;b=a;!b;}", "P{I1{?a;}{?b;}}Ia{?a;}{?b;}", "", "P{a=1;}!a;P(2);",
      "Wa{b=b+1;}", "Wa{b=b+1;}!b;", "P{Wa{b=b+1;}}Wa{b=b+1;}", "P{?a;Ia{!1;}{!2;}}?a;I1{!1;}{!2;}", "P{I1{!1;}{!2;}}?a;Ia{!1;}{!2;}", "!A[a];A[a]=b;!A[a];!A[a];", "b=a;!b;?b;!b;"};
    for (String first : texts) {
      for (String second : texts) {
        for (int kind = 0; kind < 5; kind++) {
          PassChain y = Check.program(second);
          int due = y.pass(kind);
          for (int passes = 0; passes < 2; passes++) {
            PassChain x = Check.program(first);
            for (int n = 0; n < passes; n++) {
              x.pass(kind);
            }
            Check.compile(x, second);
            Check.due("pass " + kind + " of " + second + " behind " + first, x.pass(kind), due);
            Check.due("rows of it", Check.program(x), Check.program(y));
          }
        }
      }
    }
    pass(2, "P{Wa{b=b+1;}}Wa{b=b+1;}", 3, 3, "10; 11 0; 12");
    pass(3, "P{WA[0]{}}W1+2{}", 4, 3, "0 7 1; 0 8 2; 2 9 7 8 0; 10; 11 9; 12");
    pass(0, "P{I1{!1;}{!2;}}?a;Ia{!1;}{!2;}", 1, 3, "5 0; 8 0; 0 7 1; 6 7; 9; 0 8 2; 6 8; 12");
    pass(0, "P{?a;Ia{!1;}{!2;}}b=1;Ib{!1;}{!2;}", 2, 3, "0 7 1; 0 1 1; 0 8 1; 6 8");
  }
}
