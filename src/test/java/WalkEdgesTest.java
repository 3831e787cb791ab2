/** The edges that THE WALK and CODE name. */
public final class WalkEdgesTest {
  public static void main(String[] args) {
    saidOnce();
    onThisWay();
    behindAnIf();
    behindAWhile();
    aheadOfDo();
    overCalls();
    numbersSayNothing();
    whatIsSaidInOrder();
    thingsMadeAlike();
    ifOfNumbers();
    whatBothWaysHave();
    whatCircles();
    untilAllChange();
    whatItBeganAs();
    whatItBecame();
    whereItStands();
    inputsBefore();
    inOneAnother();
    asDeepAsCan();
    asManyAsCan();
    oneBehindTheOther();
    callsBeginWithZero();
    codeOfNothing();
    codeOfPlaces();
    codeOfRowsAsTheyAre();
    greatestNumbers();
    Check.end();
  }

  /** Touches of the main part that stay, then one that stays or not. */
  private static void touch(String text, long want, int... touches) {
    PassChain x = Check.program(text);
    for (int i = 0; i + 2 < touches.length; i += 3) {
      int at = i;
      boolean isLast = i + 3 == touches.length;
      Check.due(text + ": touch " + touches[at] + " " + touches[at + 1] + " " + touches[at + 2],
          () -> Check.of(x.touch(3, touches[at], touches[at + 1], touches[at + 2])), isLast ? want : 1);
    }
  }

  private static void swap(String text, int k, long want) {
    PassChain x = Check.program(text);
    Check.due(text + ": swap " + k, () -> Check.of(x.swap(3, k)), want);
  }

  /**
   * Of a program the last division (or LOAD, or STORE) by a: whether it says nothing, so that it may become one by a
   * number. Nobody reads what it makes.
   */
  private static void isSilent(String text, boolean want) {
    PassChain x = Check.program(text);
    int last = -1;
    int number = -1;
    for (int k = 0; k < x.size(3, 0); k++) {
      if (x.item(3, k, 0) == 2 && x.item(3, k, 4) == 3) {
        last = k;
        number = x.item(3, k, 2);
      }
    }
    int k = last;
    int v = number;
    Check.due("the last / says nothing: " + text, () -> Check.of(x.touch(3, k, 2, v)), Check.of(want));
  }

  private static void saidOnce() {
    isSilent("?a;b=2/a;", false);
    isSilent("?a;b=2/a;c=3/a;", true);
    isSilent("?a;?b;c=2/b;c=3/a;", false);
    isSilent("?a;b=2/(a+0);c=3/a;", false);
    isSilent("?a;b=a;c=2/b;c=3/a;", true);
    isSilent("?a;b=2/a;?a;c=3/a;", false);
    isSilent("?a;b=A[a];c=3/a;", false);
    isSilent("b=2/a;c=3/a;", true);
    isSilent("c=3/a;", false);
    isSilent("?a;?b;c=A[a];d=3/b;", false);
    isSilent("?a;?b;c=A[b];d=3/a;", false);
    // Cells: LOAD and STORE say the same of a cell.
    touch("?a;b=A[a];c=A[a];", 1, 3, 1, 5);
    touch("?a;A[a]=b;c=A[a];", 1, 2, 1, 5);
    touch("?a;b=A[a];A[a]=c;", 1, 3, 0, 5);
    touch("?a;A[a]=b;A[a]=c;", 1, 2, 0, 5);
    touch("?a;A[a]=b;", 0, 1, 0, 5);
    touch("?a;b=A[a];", 0, 1, 1, 5);
    touch("?a;b=2/a;c=A[a];", 0, 4, 1, 5);
    touch("?a;b=A[a];?a;c=A[a];", 0, 4, 1, 5);
    // The same cell that is none, twice; and another one.
    touch("b=A[8];c=A[8];", 1, 3, 1, 5);
    touch("b=A[8];c=A[9];", 0, 3, 1, 5);
    touch("b=A[-1];c=A[-1];", 1, 5, 1, 7);
  }

  private static void onThisWay() {
    isSilent("?a;Ia{b=2/a;c=3/a;}{}", true);
    isSilent("?a;Ia{}{b=2/a;c=3/a;}", true);
    isSilent("?a;b=2/a;Ia{c=3/a;}{}", true);
    isSilent("?a;b=2/a;Ia{}{c=3/a;}", true);
    isSilent("?a;b=2/a;Ia{}{}c=3/a;", true);
    isSilent("?a;b=2/a;Ia{c=1;}{}c=3/a;", true);
    isSilent("?a;b=2/a;Wa{c=3/a;}", true);
    isSilent("?a;b=2/a;Wa{}c=3/a;", true);
    isSilent("?a;Wa{b=2/a;c=3/a;}", true);
    isSilent("?a;Wa{b=2/a;Ia{c=3/a;}{}}", true);
    isSilent("?a;Ia{b=2/a;Wa{c=3/a;}}{}", true);
    isSilent("?a;Ia{b=2/a;Ia{}{c=3/a;}}{}", true);
    isSilent("?a;Ia{b=2/a;Ia{b=1;}{}c=3/a;}{}", true);
    isSilent("?a;Wa{b=2/a;Wa{b=1;}c=3/a;}", true);
  }

  private static void behindAnIf() {
    isSilent("?a;Ia{b=2/a;}{c=3/a;}", false);
    isSilent("?a;Ia{b=2/a;}{}c=3/a;", false);
    isSilent("?a;Ia{}{b=2/a;}c=3/a;", false);
    isSilent("?a;Ia{b=2/a;}{b=2/a;}c=3/a;", false);
    isSilent("?a;Ia{Ia{b=2/a;}{}c=3/a;}{}", false);
    isSilent("?a;Ia{Ia{b=2/a;}{c=3/a;}}{}", false);
    isSilent("?a;Ia{}{Ia{b=2/a;}{}c=3/a;}", false);
    // Of a number, IF says nothing, and what was said in it stays on the way.
    isSilent("?a;I1{b=2/a;}{}c=3/a;", true);
    isSilent("?a;I0{}{b=2/a;}c=3/a;", true);
    isSilent("?a;I0{b=2/a;}{}c=3/a;", false);
    isSilent("?a;I1{}{b=2/a;}c=3/a;", false);
    isSilent("?a;I1{Ia{b=2/a;}{}}{}c=3/a;", false);
    isSilent("?a;Ia{I1{b=2/a;}{}c=3/a;}{}", true);
    isSilent("?a;Ia{I1{b=2/a;}{}}{}c=3/a;", false);
  }

  private static void behindAWhile() {
    isSilent("?a;Wa{b=2/a;}c=3/a;", false);
    isSilent("?a;W2/a{}c=3/a;", false);
    isSilent("?a;W2/a{c=3/a;}", true);
    isSilent("?a;Wa{Wa{b=2/a;}c=3/a;}", false);
    isSilent("?a;Wa{W2/a{}c=3/a;}", false);
    isSilent("?a;Wa{I1{b=2/a;}{}}c=3/a;", false);
    isSilent("?a;I1{Wa{b=2/a;}}{}c=3/a;", false);
    isSilent("?a;Wa{b=2/a;}Wa{c=3/a;}", false);
  }

  /** By hand DO reads c, which is the same thing; then nobody reads what is made between WHILE and DO. */
  private static void aheadOfDo() {
    touch("?a;c=2/a;W2/a{}", 1, 7, 0, 2, 6, 2, 9);
    touch("?a;Ia{c=2/a;}{}W2/a{}", 0, 10, 0, 2);
    touch("?a;c=2/a;Wa{W2/a{}}", 1, 9, 0, 2, 8, 2, 9);
    touch("?a;c=2/a;W2/a=(2/a){}", 0, 9, 0, 2);
    // It would be said behind "while", "if" or "else" then, and not ahead of it.
    touch("?a;b=2/a;W3/a{}", 0, 2, 2, 7);
    touch("?a;b=2/a;Wc{d=3/a;}", 0, 2, 2, 7);
    touch("?a;b=2/a;Ia{d=3/a;}{}", 0, 2, 2, 7);
    touch("?a;b=2/a;Ia{}{d=3/a;}", 0, 2, 2, 7);
    touch("?a;b=2/a;c=3/a;Wc{}", 1, 2, 2, 7);
  }

  private static void overCalls() {
    isSilent("P{b=2/x;}?a;P(a);c=3/a;", true);
    isSilent("P{b=2/x;}?a;Ia{P(a);}{}c=3/a;", false);
    isSilent("P{Ix{b=2/x;}{}}?a;P(a);c=3/a;", false);
    isSilent("P{Wx{b=2/x;}}?a;P(a);c=3/a;", false);
    PassChain x = Check.program("P{b=2/x;}?a;c=3/a;P(a);");
    Check.due("what was said ahead of a CALL is on its way", Check.of(x.touch(0, 1, 2, 7)), 1);
    PassChain y = Check.program("P{b=2/x;}?a;P(a);P(a);");
    Check.due("what one CALL says is on the other's way, but the one says it", Check.of(y.touch(0, 1, 2, 7)), 0);
    PassChain z = Check.program("P{b=2/x;}Q{c=3/x;}?a;P(a);Q(a);");
    Check.due("over two parts", Check.of(z.touch(1, 1, 2, 7)), 1);
  }

  private static void numbersSayNothing() {
    int[] divisors = {Integer.MIN_VALUE, -1, 1, 2, Integer.MAX_VALUE};
    for (int d : divisors) {
      touch("?a;b=a/3;", 1, 1, 1, d);
    }
    touch("?a;b=a/3;", 0, 1, 1, 0);
    touch("?a;b=a/0;", 0, 1, 1, 1);
    touch("b=3/0;c=2/0;", 1, 4, 1, 5);
    touch("b=3/0;", 1, 0, 1, 5);
    touch("b=3/0;", 0, 1, 1, 5);
  }

  private static void whatIsSaidInOrder() {
    swap("?a;!1;", 0, 1);
    swap("?a;!b;", 0, 0);
    swap("!a;!b;", 0, 1);
    swap("?b;!a;!b;", 1, 0);
    swap("?a;?b;c=a/b;", 0, 0);
    swap("?a;?b;A[a]=b;A[b]=a;", 2, 0);
    swap("A[a]=b;A[a]=b;", 0, 1);
    swap("P{!x;}P(a);P(b);", 0, 1);
    swap("P{!x;}?a;P(a);P(b);", 1, 0);
    swap("P{?c;}P(a);!b;", 0, 0);
    swap("P{}P(a);!b;", 0, 1);
    divisions("?a;?b;c=a/b;d=b/a;", 0);
    divisions("?a;?b;c=1/b;d=a/b;", 1);
    divisions("?a;c=1/a;d=A[a];", 0);
    divisions("?a;c=A[a];d=1/a;", 0);
    divisions("?a;c=A[a];A[a]=1;", 1);
    // The division is said ahead of the PRINT, the cell ahead of the division.
    PassChain x = Check.program("?a;b=2/a;!c;");
    Check.due("a MOVE and a PRINT", Check.of(x.swap(3, 3)), 1);
    Check.due("a division and a PRINT", Check.of(x.swap(3, 2)), 0);
    PassChain y = Check.program("?a;b=A[a];!c;");
    Check.due("a MOVE and a PRINT behind LOAD", Check.of(y.swap(3, 2)), 1);
    Check.due("a LOAD and a PRINT", Check.of(y.swap(3, 1)), 0);
    PassChain z = Check.program("b=A[3];!c;");
    Check.due("a MOVE and a PRINT behind LOAD of a number", Check.of(z.swap(3, 2)), 1);
    Check.due("a LOAD of a number and a PRINT", Check.of(z.swap(3, 1)), 1);
  }

  /** Brings the items that say something of the last two statements to one another, and swaps them. */
  private static void divisions(String text, long want) {
    PassChain x = Check.program(text);
    int said = -1;
    for (int k = 0; k < x.size(3, 0); k++) {
      int kind = x.item(3, k, 0);
      boolean says = kind == 3 || kind == 4 || kind == 2 && x.item(3, k, 4) == 3;
      for (int at = k; says && said >= 0 && at > said + 1; at--) {
        int before = at - 1;
        Check.due(text + ": brought near", () -> Check.of(x.swap(3, before)), 1);
      }
      said = says && said < 0 ? k : said;
    }
    int first = said;
    Check.due(text + ": the two swapped", () -> Check.of(x.swap(3, first)), want);
  }

  private static void thingsMadeAlike() {
    char[] operators = {'+', '-', '*', '/', '<', '='};
    for (int o = 0; o < 6; o++) {
      String text = "?a;?b;c=a" + operators[o] + "b;d=a" + operators[o] + "b;!c;";
      touch(text, 1, 6, 0, 3);
      touch("?a;?b;c=a" + operators[o] + "b;d=b" + operators[o] + "a;!c;", 0, 6, 0, 3);
      for (int other = 0; other < 6; other++) {
        touch("?a;?b;c=a" + operators[o] + "b;!c;", Check.of(o == other), 2, 3, other);
      }
    }
    touch("?a;b=A[a];c=A[a];!b;", 1, 5, 0, 2);
    touch("?a;b=A[a];A[1]=d;c=A[a];!b;", 0, 7, 0, 2);
    touch("?a;?d;b=A[a];c=A[d];!b;", 0, 6, 0, 2);
    touch("!A[0];A[0]=b;!A[0];", 1, 4, 1, 2);
    touch("?e;A[0]=b;!A[0];", 0, 2, 1, 4);
    touch("A[0]=b;A[0]=b;!A[0];", 0, 0, 1, 1);
    touch("?a;!a+0;!a;", 0, 4, 0, 8);
    touch("?a;!a*1;!a;", 0, 4, 0, 8);
    touch("?a;!a-a;!0;", 0, 4, 0, 7);
  }

  private static void ifOfNumbers() {
    touch("I1{!1;}{!2;}", 1, 5, 1, 7);
    touch("I1{!1;}{!2;}", 0, 2, 1, 7);
    touch("I0{!1;}{!2;}", 1, 2, 1, 7);
    touch("I0{!1;}{!2;}", 0, 5, 1, 7);
    touch("I1{!1;}{!2;}", 1, 0, 1, 2);
    touch("I1{!1;}{!2;}", 1, 0, 1, -1);
    touch("I1{!1;}{!2;}", 1, 0, 1, Integer.MIN_VALUE);
    touch("I1{!1;}{!2;}", 0, 0, 1, 0);
    touch("I1{!1;}{!1;}", 1, 0, 1, 0);
    touch("?a;I1{!1;}{!1;}", 0, 2, 0, 0);
    touch("?a;Ia{!1;}{!1;}", 0, 1, 0, 1);
  }

  private static void whatBothWaysHave() {
    touch("?a;Ia{b=1;}{b=1;}!1;", 1, 9, 0, 1);
    touch("?a;Ia{b=1;}{b=2;}!1;", 0, 9, 0, 1);
    touch("?a;Ia{b=1;}{}!b;!0;", 0, 8, 0, 1);
    touch("?a;Ia{b=1;c=1;}{b=2;c=2;}!b;", 1, 12, 0, 2);
    touch("?a;Ia{b=1;c=2;}{b=2;c=1;}!b;", 0, 12, 0, 2);
    touch("?a;Ia{b=1;}{b=2;}Ia{c=1;}{c=2;}!b;", 1, 15, 0, 2);
    touch("?a;?d;Ia{b=1;}{b=2;}Id{c=1;}{c=2;}!b;", 0, 16, 0, 2);
    touch("?a;Ia{A[0]=1;}{}!A[0];", 0, 3, 1, 2);
    touch("?a;Ia{A[0]=1;}{A[0]=1;}A[2]=A[0];", 1, 2, 1, 0);
    touch("?a;Ia{}{}!b;", 1, 4, 0, 2);
    touch("?a;Ia{?b;}{}c=b;!b;", 1, 6, 0, 2);
    // The latter items begin with what was before, not with what the former made.
    touch("?a;Ia{b=5;}{!b;}", 1, 5, 0, 2);
    touch("?a;b=7;Ia{b=5;}{!b;}", 1, 7, 0, 7);
    touch("?a;Ia{A[0]=5;}{!A[0];}", 1, 3, 1, 6);
    for (int r = 0; r < 6; r++) {
      char v = "abcdef".charAt(r);
      char read = r == 0 ? 'b' : 'a';
      String text = "e=1;e=2;?" + read + ";I" + read + "{" + v + "=1;}{" + v + "=2;}!" + v + ";";
      touch(text, 0, 12, 0, 7);
      touch(text, 0, 12, 0, 8);
      touch(text, 1, 12, 0, r);
      touch("e=1;?" + read + ";I" + read + "{" + v + "=1;}{" + v + "=1;}!" + v + ";", 1, 10, 0, 7);
    }
    PassChain x = Check.program("P{Ix{b=1;}{b=2;}}?a;P(a);!b;");
    Check.due("in a CALL, too", Check.of(x.touch(0, 1, 1, 3)), 0);
  }

  private static void whatCircles() {
    // b keeps what it has, as it comes to END as it began; a does not.
    touch("b=5;Wa<3{!b;a=a+1;}", 1, 6, 0, 7);
    touch("b=5;Wa<3{!b;b=5;a=a+1;}", 0, 6, 0, 7);
    touch("Wa<3{!a;a=a+1;}", 0, 4, 0, 6);
    touch("Wa<3{!c;a=a+1;}", 1, 4, 0, 6);
    touch("Wa<3{!c;c=c;a=a+1;}", 1, 4, 0, 6);
    touch("Wa<3{!c;c=0;a=a+1;}", 0, 4, 0, 6);
    touch("A[0]=1;Wa<3{b=A[0];!b;a=a+1;}", 1, 10, 0, 12);
    touch("b=A[0];Wa<3{a=a+1;}!A[0];", 1, 13, 0, 1);
    touch("b=A[0];Wa<3{A[1]=2;a=a+1;}!A[0];", 0, 16, 0, 1);
    touch("Wa<3{a=a+1;}!A[0];A[0]=b;!A[0];", 0, 15, 0, 12);
    // Behind END things are as at DO.
    touch("Wa<3{b=a;a=a+1;}!a;!b;", 0, 9, 0, 1);
    touch("Wa<3{a=a+1;}!a;", 0, 8, 0, 10);
    touch("?c;Wa<3{b=5;Ic{d=1;}{}a=a+1;}!b;", 0, 16, 0, 9);
    touch("b=1;Wa<3{b=2;a=a+1;}!b;!1;", 0, 12, 0, 7);
    // Two registers, and two WHILEs, are not the same.
    touch("Wa<3{a=a+1;b=b+1;}!a;", 0, 11, 0, 1);
    touch("Wa<3{a=a+1;}!a;Wb<3{b=b+1;}!b;", 0, 17, 0, 0);
    touch("Wc{Wd{!a;a=a+1;}!b;b=b+1;}", 0, 4, 0, 1);
    // In it, all that say are said: while, as long, end.
    touch("Wa{}Wb{}", 1, 1, 0, 1);
    touch("?a;Wa{}Wb{}", 0, 2, 0, 1);
    touch("W0{!1;}", 0, 3, 1, 2);
  }

  /** e is 0, so that d is not written once e keeps 0; then c, then b. */
  private static void untilAllChange() {
    String three = "Wa<3{Ie{d=1;}{}Id{c=1;}{}Ic{b=1;}{}a=a+1;}!b;";
    touch(three, 1, 23, 0, 5);
    touch("e=1;" + three, 0, 25, 0, 5);
    touch("Wa<3{Ic{b=1;}{}Id{c=1;}{}Ie{d=1;}{}a=a+1;}!b;", 1, 23, 0, 5);
    touch("Wa<3{Ic{b=1;}{}Id{c=1;}{}Ie{d=1;}{}a=a+1;e=f;}!b;", 0, 24, 0, 5);
    touch("Wa<3{Wf{Ic{b=1;}{}}a=a+1;}!b;", 1, 16, 0, 4);
    // What is made ahead of DO counts, too: 9 is not 0 each time, and 7 is, though not at first.
    touch("Wa+0<2{}", 0, 2, 2, 9);
    touch("c=1;W0{Ia{b=1;}{}}!b;", 1, 3, 0, 7, 5, 0, 7, 11, 0, 3);
    // All circle at first, and so b and c, each written if the other is not 0, never stop.
    touch("Wa<3{Ic{b=1;}{}Ib{c=1;}{}a=a+1;}!b;", 0, 18, 0, 4);
    touch("Wa<3{Wf{Ic{b=1;}{}}Ib{c=1;}{}a=a+1;}!b;", 0, 21, 0, 4);
  }

  private static void whatItBeganAs() {
    touch("b=1;Wa<3{a=a+1;b=b+1;}!b;", 0, 0, 1, 2);
    touch("b=1;Wa<3{a=a+1;b=b+1;}!a;", 1, 0, 1, 2);
    // c stands in what b began as, and only there.
    String two = "Wa<3{a=a+1;c=c+2;}b=c;Wd<9{d=d+1;b=b+1;}";
    touch(two + "!b;", 0, 7, 1, 3);
    touch(two + "!d;", 1, 7, 1, 3);
    touch("c=5;" + two + "!b;", 0, 0, 1, 6);
    touch("c=5;" + two + "!d;", 1, 0, 1, 6);
    touch("A[0]=1;Wa<3{a=a+1;A[1]=2;}!A[0];", 0, 1, 1, 2);
    touch("A[0]=1;Wa<3{a=a+1;A[1]=2;}", 1, 1, 1, 2);
  }

  private static void whatItBecame() {
    touch("Wa<3{a=a+1;b=b+1;}!b;", 0, 7, 1, 2);
    touch("Wa<3{a=a+1;b=b+1;}!a;", 1, 7, 1, 2);
    // e stands in what d became, d in what c became, c in what b became.
    String chain = "Wa<9{a=a+1;b=b+c;c=c+d;d=d+e;e=e+2;}";
    touch(chain + "!b;", 0, 13, 1, 3);
    touch(chain + "!f;", 1, 13, 1, 3);
    touch(chain + "!e;", 1, 9, 2, 5);
    touch(chain + "!c;", 0, 11, 2, 5);
    touch(chain + "!d;", 1, 9, 2, 5);
    touch(chain + "!d;", 0, 11, 2, 5);
    // Said in the condition, not printed at all.
    touch("Wb<9{b=b+c;c=c+2;}", 0, 6, 1, 3);
    touch("Wb<9{b=b+2;c=c+2;}", 1, 7, 1, 3);
    // In a WHILE inside another.
    touch("Wa<9{a=a+1;Wb<a{b=b+c;}c=c+2;}!b;", 0, 13, 1, 3);
    touch("Wa<9{a=a+1;Wb<a{b=b+1;}c=c+2;}!b;", 1, 14, 1, 3);
    touch("A[0]=1;Wa<3{a=a+1;A[1]=2;}!A[0];", 0, 11, 1, 3);
  }

  /** b, which nobody prints, stands in what is printed, in what that is made of, and so on. */
  private static void whereItStands() {
    String loop = "Wa<3{a=a+1;b=b+2;}";
    String[] standsIn = {"!b;", "!b+1;", "!1+b;", "!-b;", "!(b*2)*2;", "A[0]=b;!A[0];", "A[0]=b;A[1]=c;!A[0];",
      "A[0]=1;A[1]=b;!A[0];", "?c;Ic{d=b;}{}!d;", "?c;Ic{}{d=b;}!d;", "?c;Ic{A[0]=b;}{}!A[0];", "Ib{}{}", "Wb{}",
      "c=1/b;", "c=A[b];", "A[b]=c;", "!A[b];", "?c;Ic{d=b;}{}?e;Ie{f=d;}{}!f;", "?c;Ic{!b;}{}", "?c;Ic{}{!b;}",
      "c=b;Wd<9{d=d+1;c=c+1;}!c;", "Wd<9{d=d+1;c=c+b;}!c;", "Wd<9{d=b;}", "Wd<9{!b;d=d+1;}"};
    for (String one : standsIn) {
      touch(loop + one, 0, 7, 1, 3);
      touch("b=5;" + loop + one, 0, 0, 1, 6);
    }
    String[] nowhere = {"", "!a;", "c=b;", "A[0]=b;", "!A[0];A[0]=b;", "b=1;!b;", "?c;Ic{d=b;}{}", "I0{!b;}{}", "?b;!b;",
      "c=b;Wd<9{d=d+1;c=c+1;}", "Wd<9{d=d+1;c=c+b;}!d;", "d=b;Wc<9{c=c+1;d=5;}", "c=1+b;"};
    for (String one : nowhere) {
      touch(loop + one, 1, 7, 1, 3);
      touch("b=5;" + loop + one, 1, 0, 1, 6);
    }
  }

  /** An IF, WHILE or CALL inside another: what was before the outer one is not lost by the inner one. */
  private static void inOneAnother() {
    String[] inner = {"", "?f;", "Ia{c=1;}{}", "Ia{}{c=1;}", "Ia{c=1;}{c=2;}", "Wc{c=0;}", "Wa{Wc{c=0;}}", "P(5);",
      "Ia{P(5);}{}", "Wc{c=0;P(5);}", "Q(5);", "I1{Ia{c=1;}{}}{}", "Ia{Ia{c=1;}{}}{Ia{}{c=1;}}"};
    String head = "P{c=x;}Q{Ix{P(x);}{P(1);}P(a);}?a;";
    for (String one : inner) {
      // d is 0, and so is b in the latter items, whatever the former have made of it.
      lastPrint(head + "Ia{b=1;" + one + "}{!b;}", 3, 1);
      // What the former have made of b is not lost by what is in the latter.
      lastPrint(head + "Ia{b=1;}{" + one + "}!b;", 3, 0);
      lastPrint(head + "b=1;Ia{" + one + "}{b=2;" + one + "}!b;", 7, 0);
      lastPrint(head + "b=1;Ia{" + one + "}{" + one + "}!b;", 7, 1);
      // Behind a WHILE b is as at DO.
      lastPrint(head + "b=1;Wa{b=2;" + one + "}!b;", 7, 0);
      lastPrint(head + "b=1;Wa{b=2;" + one + "}!b;", 8, 0);
      lastPrint(head + "b=1;Wa{" + one + "}!b;", 7, 1);
      lastPrint(head + "b=1;Wa{" + one + "e=b;}!b;", 7, 1);
    }
  }

  private static void lastPrint(String text, int v, long want) {
    PassChain x = Check.program(text);
    int last = -1;
    for (int k = 0; k < x.size(3, 0); k++) {
      last = x.item(3, k, 0) == 6 ? k : last;
    }
    int k = last;
    Check.due("the last PRINT of " + text + " prints " + v, () -> Check.of(x.touch(3, k, 0, v)), want);
  }

  private static void asDeepAsCan() {
    String text = "P{" + "Ia{".repeat(4) + "!x;" + "}{}".repeat(4) + "}Q{" + "Ia{".repeat(3) + "P(x);" + "}{}".repeat(3) + "}R{"
        + "Ia{".repeat(3) + "Q(x);" + "}{}".repeat(3) + "}?a;" + "Ia{".repeat(5) + "R(a);" + "}{}".repeat(5);
    Check.due("characters of it", text.length(), 120);
    PassChain x = Check.program(text);
    Check.due("another one is printed there", Check.of(x.touch(0, 4, 0, 1)), 0);
    Check.due("the same one is printed there", Check.of(x.touch(0, 4, 0, 0)), 1);
    for (int kind = 0; kind < 4; kind++) {
      Check.due("a pass over it", Check.of(x.pass(kind) >= 0), 1);
    }
    Check.due("INLINE of it", x.pass(4), 3);
    Check.due("levels of it", x.size(3, 0), 1 + 5 * 3 + 3 * (1 + 3 * 3) + 3 + 1);
    x.feed(7);
    x.run(2000);
    Check.due("it prints", Check.printed(x), "7");
  }

  /** As many words, things and WHILEs as a walk can have, or nearly so: the last ones count as the first do. */
  private static void asManyAsCan() {
    String words = "P{" + "!a;".repeat(13) + "}?a;" + "P(a);".repeat(9) + "!a;".repeat(10);
    PassChain x = Check.program(words);
    for (int k = 10; k < 20; k++) {
      Check.due("the word of " + k, Check.of(x.touch(3, k, 0, 1)), 0);
    }
    PassChain w = Check.program("P{" + "?a;".repeat(20) + "}" + "P(a);".repeat(7) + "!a;!b;!a;");
    Check.due("the 143rd word", Check.of(w.touch(3, 9, 0, 1)), 0);
    Check.due("and the one before it", Check.of(w.touch(3, 8, 0, 0)), 0);
    for (int whiles = 3; whiles <= 9; whiles += 2) {
      int calls = 143 / (3 * whiles + 1);
      PassChain y = Check.program("P{" + "Wa{}".repeat(whiles) + "}" + "P(a);".repeat(calls) + "Wb{b=b+c;}!b;");
      Check.due("what circles behind " + whiles * calls, Check.of(y.touch(3, calls + 2, 3, 1)), 0);
      PassChain z = Check.program("P{" + "Wa{}".repeat(whiles) + "}" + "P(a);".repeat(calls) + "Wd{b=b+c;}!e;");
      Check.due("what nobody prints behind " + whiles * calls, Check.of(z.touch(3, calls + 2, 3, 1)), 1);
    }
    for (int n = 0; n <= 20; n++) {
      PassChain y = Check.program("!1" + "+1".repeat(n) + ";?a;" + "Wa{b=b+a;c=b;}".repeat(4) + "!b;!c;");
      for (int k = y.size(3, 0) - 2; k < y.size(3, 0); k++) {
        Check.due("PRINT " + k + " as it is, of " + n, Check.of(y.touch(3, k, 0, y.item(3, k, 1))), 1);
        Check.due("PRINT " + k + " of another, of " + n, Check.of(y.touch(3, k, 0, 3)), 0);
      }
    }
    String things = "!1" + "+1".repeat(20) + ";?a;" + "Wa{b=b+a;}".repeat(7) + "!b;";
    PassChain z = Check.program(things);
    for (int k = 0; k < z.size(3, 0); k++) {
      if (z.item(3, k, 0) == 2) {
        Check.due("WORK " + k + " as it is", Check.of(z.touch(3, k, 3, 0)), 1);
        Check.due("WORK " + k + " with -", Check.of(z.touch(3, k, 3, 1)), 0);
        Check.due("WORK " + k + " of another", Check.of(z.touch(3, k, 2, 59 - 5)), 0);
      }
    }
    Check.due("another PRINT", Check.of(z.touch(3, z.size(3, 0) - 1, 0, 2)), 0);
    Check.due("the same PRINT", Check.of(z.touch(3, z.size(3, 0) - 1, 0, 1)), 1);
    for (int kind = 0; kind < 5; kind++) {
      Check.due("a pass over many", Check.of(z.pass(kind) >= 0), 1);
    }
  }

  /** Walks of before do not count for the next ones. */
  private static void oneBehindTheOther() {
    touch("b=1;Wa<3{a=a+1;b=b+1;}!b;", 0, 13, 0, 1, 0, 1, 2);
    touch("b=1;Wa<3{a=a+1;b=b+1;}!b;", 0, 13, 0, 1, 13, 0, 1, 9, 1, 2);
    PassChain x = Check.program("b=1;c=1;Wa<3{a=a+1;b=b+1;}!b;");
    for (int i = 0; i < 3; i++) {
      Check.due("what c began as", Check.of(x.touch(3, 2, 1, i)), 1);
      Check.due("what b began as", Check.of(x.touch(3, 0, 1, 7 + i)), 0);
      Check.due("what b became", Check.of(x.touch(3, 11, 1, 7 + i)), 0);
      Check.due("a pass between", x.pass(3), i == 0 ? 1 : 0);
    }
    Check.compile(x, "Wa<3{a=a+1;b=b+1;}!b;");
    Check.due("in another program", Check.of(x.touch(3, 7, 1, 2)), 0);
    Check.compile(x, "Wa<3{a=a+1;b=b+1;}!a;");
    Check.due("and where nobody prints it", Check.of(x.touch(3, 7, 1, 2)), 1);
  }

  private static void inputsBefore() {
    touch("?a;?b;!a;!b;", 0, 2, 0, 1);
    touch("?a;b=a;?a;!b;", 0, 3, 0, 0);
    touch("?a;?a;?b;!a;", 1, 0, 0, 1);
    touch("?a;?b;!a;!b;", 0, 0, 0, 2);
    touch("?c;Ic{?a;}{?b;}!a;", 0, 4, 0, 0);
    touch("Wa<3{?b;a=a+b;}?c;!c;", 0, 8, 0, 3);
    // One in a WHILE, or behind it, is none of those ahead of it.
    touch("?a;Wb<1{?c;!c;b=b+1;}", 0, 6, 0, 0);
    touch("?a;?d;Wb<1{?c;!c;b=b+1;}", 0, 7, 0, 0);
    touch("?a;?d;Wb<1{?c;!c;b=b+1;}", 0, 7, 0, 3);
    touch("?a;Wb<1{b=b+1;}?c;!c;", 0, 10, 0, 0);
    touch("?a;?d;Wb<1{b=b+1;}?c;!c;", 0, 11, 0, 3);
    touch("?a;Wb<1{?d;b=b+1;}?c;!c;", 0, 11, 0, 0);
    touch("?a;Ia{?c;!c;}{}", 0, 3, 0, 0);
    touch("?a;Ia{}{?c;!c;}", 0, 4, 0, 0);
    touch("?a;Ia{?b;}{}?c;!c;", 0, 6, 0, 0);
    touch("?a;Ia{?b;}{}?c;!c;", 0, 6, 0, 1);
    touch("P{?c;}?a;P(a);!c;", 0, 2, 0, 0);
    // What is gone over without saying anything counts for none, however often that is.
    PassChain x = Check.program("Wa<2{Ic{d=1;}{}?b;a=a+1;}?e;We{e=e-1;}!e;");
    Check.due("CONSTANTS takes a round from a WHILE", x.pass(0), 1);
    PassChain y = Check.program("Wa<2{Wf<1{Ic{d=1;}{}?b;f=f+1;}a=a+1;}?e;We{e=e-1;}!e;");
    Check.due("and from one inside", y.pass(0), 1);
  }

  private static void callsBeginWithZero() {
    PassChain x = Check.program("P{!0-x;!1;}P(2);P(3);");
    Check.due("7 for 8", Check.of(x.touch(0, 1, 1, 9)), 1);
    Check.due("but behind the first it is 1", Check.of(x.touch(0, 2, 0, 9)), 0);
    x.run(2000);
    Check.due("each CALL begins with 0", Check.printed(x), "-2 1 -3 1");
    PassChain y = Check.program("P{!x;}!a;P(5);");
    Check.due("the main part's 6 is not x", Check.of(y.touch(3, 0, 0, 6)), 1);
    PassChain z = Check.program("P{}!a;P(5);!b;");
    Check.due("nor does a CALL make it so", Check.of(z.touch(3, 3, 0, 6)), 1);
    z.run(2000);
    Check.due("it is 0", Check.printed(z), "0 0");
    PassChain w = Check.program("P{a=x;}Q{P(1);!x;}Q(2);");
    Check.due("a CALL in a CALL has its own", Check.of(w.touch(1, 2, 0, 0)), 0);
    w.run(2000);
    Check.due("and the caller's come back", Check.printed(w), "2");
  }

  private static void code(String text, String want) {
    PassChain x = Check.program(text);
    Check.due("code of " + text, Check.code(x), want);
    Check.due("letters of " + text, x.count(2), want.split(";").length);
  }

  private static void codeOfNothing() {
    code("", "17 0");
    code("P{}", "17 0; 2 6; 16 0");
    code("P{}Q{}", "17 0; 2 6; 16 0; 2 6; 16 0");
    code("P{}Q{}R{}", "17 0; 2 6; 16 0; 2 6; 16 0; 2 6; 16 0");
    code("Ia{}{}", "1 0; 13 3; 14 3; 17 0");
    code("Wa{}", "1 0; 13 3; 14 0; 17 0");
    code("P{Ix{}{}}", "17 0; 2 6; 1 6; 13 5; 14 5; 16 0");
    code("P{Wx{}}", "17 0; 2 6; 1 6; 13 5; 14 2; 16 0");
  }

  private static void codeOfPlaces() {
    code("Ia{!b;}{}", "1 0; 13 5; 1 1; 12 0; 14 5; 17 0");
    code("Ia{}{!b;}", "1 0; 13 3; 14 5; 1 1; 12 0; 17 0");
    code("!a;Wb{!c;}!d;", "1 0; 12 0; 1 1; 13 7; 1 2; 12 0; 14 2; 1 3; 12 0; 17 0");
    code("WA[a]{}", "1 0; 9 0; 2 7; 1 7; 13 6; 14 0; 17 0");
    code("Wa{Wb{}}", "1 0; 13 6; 1 1; 13 5; 14 2; 14 0; 17 0");
    code("Ia{Ib{}{}}{Ic{}{}}", "1 0; 13 6; 1 1; 13 5; 14 5; 14 9; 1 2; 13 9; 14 9; 17 0");
    code("P{}Q{}R{}P(a);Q(b);R(c);", "1 0; 15 7; 1 1; 15 9; 1 2; 15 11; 17 0; 2 6; 16 0; 2 6; 16 0; 2 6; 16 0");
    code("P{?a;}Q{P(x);}R{Q(x);P(x);}", "17 0; 2 6; 11 0; 2 0; 16 0; 2 6; 1 6; 15 1; 16 0; 2 6; 1 6; 15 5; "
        + "1 6; 15 1; 16 0");
    code("A[a]=b;", "1 0; 1 1; 10 0; 17 0");
    code("a=99999;", "0 99999; 2 7; 1 7; 2 0; 17 0");
  }

  /** Each change that stays makes other code, and each that does not leaves it. */
  private static void codeOfRowsAsTheyAre() {
    PassChain x = Check.program("a=1;b=2;!b;");
    String compiled = "0 1; 2 7; 1 7; 2 0; 0 2; 2 8; 1 8; 2 1; 1 1; 12 0; 17 0";
    Check.due("compiled", Check.code(x), compiled);
    Check.due("a touch", Check.of(x.touch(3, 0, 1, 5)), 1);
    Check.due("touched", Check.code(x), compiled.replaceFirst("0 1", "0 5"));
    Check.due("one that does not stay", Check.of(x.touch(3, 2, 1, 5)), 0);
    Check.due("code is as it was", Check.code(x), compiled.replaceFirst("0 1", "0 5"));
    Check.due("a swap", Check.of(x.swap(3, 1)), 1);
    Check.due("swapped", Check.code(x), "0 5; 2 7; 0 2; 2 8; 1 7; 2 0; 1 8; 2 1; 1 1; 12 0; 17 0");
    x.restore();
    Check.due("restored", Check.code(x), compiled);
    Check.due("a pass", x.pass(2), 2);
    Check.due("behind the pass", Check.code(x), "0 2; 2 8; 1 8; 2 1; 1 1; 12 0; 17 0");
    Check.due("no program", Check.compile(x, "!"), Check.ARGUMENT);
    Check.due("code of what stayed", Check.code(x), "0 2; 2 8; 1 8; 2 1; 1 1; 12 0; 17 0");
    Check.due("a run of it", x.run(2000), 0);
    Check.due("steps of it", x.count(5), 7);
    x.restore();
    Check.due("letters when restored", x.count(2), 11);
    Check.due("a run when restored", x.run(2000), 0);
    Check.due("steps when restored", x.count(5), 11);
    Check.due("another program", Check.compile(x, "?f;"), 1);
    Check.due("its code", Check.code(x), "11 0; 2 5; 17 0");
    x.run(2000);
    Check.due("its steps", x.count(5), 3);
  }

  private static void greatestNumbers() {
    PassChain x = Check.program("P{!1;}");
    int[] numbers = {Integer.MIN_VALUE, -1, 0, Integer.MAX_VALUE};
    for (int n : numbers) {
      Check.due("touch of what nobody calls", Check.of(x.touch(0, 0, 1, n)), 1);
      Check.due("its item", x.item(0, 0, 2), n);
      Check.due("its code", Check.code(x), "17 0; 2 6; 0 " + n + "; 2 7; 1 7; 12 0; 16 0");
    }
    PassChain y = Check.program("!1" + "+1".repeat(26) + ";");
    Check.due("the greatest register of an item", y.item(3, 53, 1), 59);
    Check.due("and of code", y.code(y.count(2) - 3, 1), 59);
  }
}
