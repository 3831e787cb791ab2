/** The bounds that the terms TEXT and PROGRAM name: at each of them, just inside it and just outside it. */
public final class TextEdgesTest {
  public static void main(String[] args) {
    howManyCharacters();
    whichCharacters();
    blanks();
    howManyProcedures();
    whoMayCallWhom();
    noStatementsAndMany();
    blocksInOneAnother();
    lettersOfStatements();
    lettersOfExpressions();
    signs();
    digits();
    factorsInOneAnother();
    factorsBeside();
    comparisons();
    endsOfTexts();
    oneBehindTheOther();
    Check.end();
  }

  private static boolean isProgram(String text) {
    return Check.compile(new PassChain(), text) >= 0;
  }

  private static void due(String text, boolean want) {
    Check.due("is a program: " + text, Check.of(isProgram(text)), Check.of(want));
    if (!want) {
      Check.due("throws: " + text, Check.compile(new PassChain(), text), Check.ARGUMENT);
    }
  }

  /** For each character in the place of the dot: it is a program with those wanted alone. */
  private static void dueWith(String text, String wanted) {
    for (char c = 32; c < 127; c++) {
      due(text.replace('.', c), wanted.indexOf(c) >= 0);
    }
  }

  private static int word(String text) {
    int word = 0;
    for (int i = 0; i < text.length(); i++) {
      word = word << 8 | text.charAt(i);
    }
    return word;
  }

  private static PassChain withText(String text) {
    PassChain x = new PassChain();
    Check.due("all is put of " + text, Check.of(Check.write(x, text)), 1);
    return x;
  }

  private static void howManyCharacters() {
    String full = "?a;".repeat(40);
    for (int n = 1; n <= 4; n++) {
      int length = n;
      int last = word(full.substring(120 - n));
      PassChain x = withText(full.substring(0, 120 - n));
      Check.due(n + " up to 120", Check.of(x.put(last, n)), 1);
      Check.due("120 are there", x.count(0), 120);
      Check.due("all of them are compiled", () -> x.compile(), 40);
      PassChain y = withText(full.substring(0, 119 - n));
      Check.due(n + " up to 119", Check.of(y.put(last, n)), 1);
      Check.due("119 are there", y.count(0), 119);
      for (int more = 1; more <= n; more++) {
        String before = full.substring(0, 120 - n + more);
        Check.refused(n + " up to " + (120 + more), () -> withText(before),
            z -> Check.of(z.put(word("?a;?".substring(0, length)), length)), 0);
      }
    }
  }

  private static void whichCharacters() {
    for (int n = 1; n <= 4; n++) {
      for (int place = 0; place < 4; place++) {
        for (int c = 0; c < 256; c++) {
          int length = n;
          int word = word("!!!!") & ~(255 << 8 * place) | c << 8 * place;
          boolean fits = place >= n || c >= 32 && c <= 126;
          PassChain x = new PassChain();
          Check.due("put of " + c + " at " + place + " of " + n, Check.of(x.put(word, n)), Check.of(fits));
          Check.due("characters then", x.count(0), fits ? n : 0);
          if (!fits && (c == 31 || c == 127)) {
            Check.refused("what is there stays at " + c, () -> withText("!5;"), y -> Check.of(y.put(word, length)), 0);
          }
        }
      }
    }
  }

  private static void blanks() {
    String text = "P{!x;}a=1;A[a]=A[2]+-(3);?b;Ib<2{}{}Wa=b{}P(2);";
    due(text, true);
    for (int i = 0; i <= text.length(); i++) {
      due(text.substring(0, i) + " " + text.substring(i), false);
    }
    due(" ", false);
  }

  private static void howManyProcedures() {
    String[] letters = {"", "P", "Q", "R", "S"};
    String[] fit = {"", "P", "PQ", "PQR"};
    for (String a : letters) {
      for (String b : letters) {
        for (String c : letters) {
          for (String d : letters) {
            String order = a + b + c + d;
            boolean fits = false;
            for (String one : fit) {
              fits |= order.equals(one);
            }
            due(order.replaceAll("(.)", "$1{}"), fits);
            due(order.replaceAll("(.)", "$1{!x;}") + "?a;", fits);
          }
        }
      }
    }
    for (int n = 0; n <= 3; n++) {
      PassChain x = Check.program("P{}Q{}R{}".substring(0, 3 * n));
      Check.due("procedures", x.count(1), n);
      for (int p = 0; p < 3; p++) {
        Check.due("size of part " + p + " of " + n, x.size(p, 0), p < n ? 0 : -1);
        Check.due("registers of part " + p + " of " + n, x.size(p, 1), p < n ? 7 : -1);
      }
    }
    due("!a;P{}", false);
    due("P{}!a;Q{}", false);
  }

  private static void whoMayCallWhom() {
    for (int procedures = 0; procedures <= 3; procedures++) {
      for (int in = 0; in <= procedures; in++) {
        for (int called = 0; called < 3; called++) {
          StringBuilder text = new StringBuilder();
          String call = "PQR".charAt(called) + "(1);";
          for (int p = 0; p < procedures; p++) {
            text.append("PQR".charAt(p)).append('{').append(p == in ? call : "").append('}');
          }
          due(text + (in == procedures ? call : ""), called < in);
        }
      }
    }
  }

  private static void noStatementsAndMany() {
    Check.due("no text at all", Check.compile(new PassChain(), ""), 0);
    Check.due("procedures alone", Check.compile(new PassChain(), "P{}Q{}R{}"), 0);
    Check.due("one statement", Check.compile(new PassChain(), "?a;"), 1);
    Check.due("forty", Check.compile(new PassChain(), "?a;".repeat(40)), 40);
    PassChain x = Check.program("P{" + "?a;".repeat(39) + "}");
    Check.due("39 in a block", x.size(0, 0), 39);
    due("Ia{}{}Wa{}", true);
  }

  /** Blocks of IFs, the former or the latter by the bits of a number, and of one WHILE. */
  private static String blocks(int depth, int bits, int whileAt, String inside) {
    String text = inside;
    for (int i = 0; i < depth; i++) {
      boolean former = (bits >> i & 1) != 0;
      text = i == whileAt ? "Wa{" + text + "}" : former ? "Ia{" + text + "}{}" : "Ia{}{" + text + "}";
    }
    return text;
  }

  private static void blocksInOneAnother() {
    for (int depth = 3; depth <= 6; depth++) {
      for (int bits = 0; bits < 1 << depth; bits++) {
        for (int whileAt = -1; whileAt < depth; whileAt++) {
          String text = blocks(depth, bits, whileAt, "?b;");
          due(text, depth <= 5);
          due("P{" + text + "}", depth <= 4);
          due("P{}Q{" + text + "}", depth <= 4);
          due("P{}Q{}R{" + text + "}", depth <= 4);
        }
      }
    }
    due(blocks(5, 0, -1, "") + blocks(5, 31, 2, ""), true);
    due("P{" + blocks(4, 0, -1, "") + "}" + blocks(5, 31, 2, ""), true);
    due("P{" + blocks(4, 5, -1, "") + "}Q{" + blocks(4, 0, 3, "P(1);") + "}", true);
    String[] without = {"Ib", "Wb", "Ib;", "Wb;", "{}", "{", "Ib{", "Wb{"};
    for (String one : without) {
      due(blocks(4, 21, -1, one), false);
      due(blocks(5, 21, -1, one), false);
    }
    due("{}", false);
    due("P{{}}", false);
  }

  private static void lettersOfStatements() {
    dueWith(".=1;", "abcdef");
    dueWith("?.;", "abcdef");
    dueWith(".[1]=2;", "A");
    dueWith(".a;", "!?");
    dueWith(".a{}{}", "I");
    dueWith(".a{}", "W");
    dueWith("P{}Q{}R{}.(1);", "PQR!");
    dueWith("P{}Q{}.(1);", "PQ!");
    dueWith("P{}.(1);", "P!");
    dueWith(".(1);", "!");
    dueWith(".{}", "P");
    dueWith("P{}.{}", "Q");
    dueWith("P{}Q{}.{}", "R");
    dueWith("P{}Q{}R{}.{}", "");
    dueWith("a=1.", ";");
    dueWith("!1.", ";");
    dueWith("?a.", ";");
    dueWith("P{}P(1).", ";");
    dueWith("P{}P.1);", "(");
    dueWith("P{}P(a.;", ")");
    dueWith("A.1]=2;", "[");
    dueWith("A[a.=2;", "]");
    dueWith("A[1].2;", "=");
    dueWith("a.1;", "=");
    dueWith("Wa.}", "{");
    dueWith("Wa{.", "}");
    dueWith("Ia.}{}", "{");
    dueWith("Ia{.{}", "}");
    dueWith("Ia{}.}", "{");
    dueWith("Ia{}{.", "}");
    dueWith("P.}", "{");
    dueWith("P{.", "}");
    dueWith("a=1;.", "");
  }

  private static void lettersOfExpressions() {
    dueWith("!.;", "abcdef0123456789");
    dueWith("P{!.;}", "abcdefx0123456789");
    dueWith("P{}Q{!.;}", "abcdefx0123456789");
    dueWith("P{}Q{}R{!.;}", "abcdefx0123456789");
    dueWith("P{}!.;", "abcdef0123456789");
    dueWith("!a.b;", "+-*/<=");
    dueWith("!.a;", "-");
    dueWith("!.1;", "-0123456789");
    dueWith("!1.;", "0123456789");
    dueWith("!a.;", "");
    dueWith("!a+.b;", "-");
    dueWith("!a*.b;", "-");
    dueWith("!a<.b;", "-");
    dueWith("!.a);", "(");
    dueWith("!(a.;", ")");
    dueWith("!.[a];", "A");
    dueWith("!A.a];", "[");
    dueWith("!A[a.;", "]");
    dueWith("!(((((.)))));", "abcdef0123456789");
    dueWith("!-----.;", "abcdef0123456789");
    dueWith("P{!A[A[A[A[A[.]]]]];}", "abcdefx0123456789");
  }

  private static void signs() {
    due("!--a;", true);
    due("!a--b;", true);
    due("!a-+b;", false);
    due("!-(-a);", true);
    due("!();", false);
    due("!A[];", false);
    due("!-;", false);
    due("!;", false);
    due("a=;", false);
    due("A[]=1;", false);
    due("A[1]=;", false);
    due("I{}{}", false);
    due("W{}", false);
    due("P{}P();", false);
    due("?;", false);
  }

  private static void digits() {
    String number = "";
    for (int n = 0; n <= 8; n++) {
      due("!" + number + ";", n >= 1 && n <= 5);
      due("!a+" + number + ";", n >= 1 && n <= 5);
      due("!-" + number + ";", n >= 1 && n <= 5);
      number += "9";
    }
    String[] numbers = {"0", "00000", "1", "9", "10", "00001", "9999", "10000", "99999", "09999"};
    for (String one : numbers) {
      PassChain x = Check.program("!" + one + ";");
      Check.due("the number " + one, x.item(3, 0, 2), Integer.parseInt(one));
    }
    due("!000000;", false);
    due("!012345;", false);
  }

  /** Factors in one another, each kind of them being a digit of a number to the base of 3. */
  private static String factors(int depth, int kinds) {
    String text = "b";
    int left = kinds;
    for (int i = 0; i < depth; i++) {
      text = left % 3 == 0 ? "A[" + text + "]" : left % 3 == 1 ? "(" + text + ")" : "-" + text;
      left /= 3;
    }
    return text;
  }

  private static void factorsInOneAnother() {
    int kinds = 27;
    for (int depth = 4; depth <= 6; depth++) {
      kinds = depth == 4 ? 81 : 3 * kinds;
      for (int k = 0; k < kinds; k++) {
        String factor = factors(depth, k);
        due("!" + factor + ";", depth <= 5);
        due("A[" + factor + "]=" + factor + ";", depth <= 5);
      }
    }
  }

  private static void factorsBeside() {
    for (int depth = 5; depth <= 6; depth++) {
      boolean fits = depth == 5;
      String factor = factors(depth, 123);
      String least = factors(5, 77);
      String[] about = {"a=.;", "!.;", "A[.]=a;", "A[a]=.;", "I.{}{}", "W.{}", "P{}P(.);", "P{!.;}", "!1+.;", "!2*.;",
        "!a<.;", "!a=.;", "!a-b*.;", "!#+.;", "!.+#;", "!#*.;", "!.*#;", "!#<.;", "!.=#;", "A[#]=.;", "A[.]=#;",
        "P{!#;}!.;", "!#;!.;", "!.-#/#;"};
      for (String one : about) {
        due(one.replace("#", least).replace(".", factor), fits);
      }
    }
    due("!(((((a+b)*c)-d)/e)<f);", true);
    due("!((((((a+b)*c)-d)/e)<f)=1);", false);
    due("!-(a+(b*(c-(d))));", true);
    due("!-(a+(b*(c--d)));", true);
    due("!-(a+(b*(c-(-d))));", false);
  }

  private static void comparisons() {
    String[] two = {"<", "="};
    for (String one : two) {
      due("!a" + one + "b;", true);
      due("!a+1" + one + "b*2;", true);
      due("c=a" + one + "b;", true);
      for (String other : two) {
        due("!a" + one + "b" + other + "c;", false);
        due("!(a" + one + "b)" + other + "c;", true);
        due("!a" + one + "(b" + other + "c);", true);
        due("!A[a" + one + "b]" + other + "c;", true);
        due("d=a" + one + "b" + other + "c;", false);
      }
    }
  }

  /** What is cut off at its end, or goes on behind it, is none. */
  private static void endsOfTexts() {
    String[] texts = {"a=b;", "A[1]=2;", "!3;", "?d;", "Ia{}{}", "Wa{}", "P{}P(1);"};
    for (String text : texts) {
      due(text, true);
      for (int i = 1; i < text.length(); i++) {
        due(text.substring(0, i), i == 3 && text.startsWith("P{}"));
      }
      due(text + ";", false);
      due(text + "}", false);
    }
  }

  /** What was compiled before, or was none, does not count for the next text. */
  private static void oneBehindTheOther() {
    String[] texts = {"P{!x;}P(1);", "!x;", "P{}Q{}R{R(1);}", "P{a=x;}Q{P(x);}Q(2);", "Q{}", "P{", "P", "!a;", "!((((((a))))));",
      "R(1);", "!1+1+1+1+1+1+1+1+1+1+1+1+1+1+1+1+1+1+1+1+1+1+1+1+1+1+1+1+1+1;", "P{}Q{}R{}P(a);Q(b);R(c);", "?a", ""};
    for (String first : texts) {
      for (String second : texts) {
        PassChain x = new PassChain();
        Check.compile(x, first);
        PassChain y = new PassChain();
        Check.due(second + " behind " + first, Check.compile(x, second), Check.compile(y, second));
        boolean stays = Check.compile(new PassChain(), second) < 0;
        boolean isThere = Check.compile(new PassChain(), first) >= 0;
        String due = !stays ? Check.program(y) : Check.program(isThere ? Check.program(first) : new PassChain());
        Check.due("the program " + second + " behind " + first, Check.program(x), due);
      }
    }
  }
}
