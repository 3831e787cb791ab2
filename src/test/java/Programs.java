import java.util.Random;

/** Texts by chance, from fixed seeds: programs most of all, and what is nearly one. */
final class Programs {
  private final Random random;
  private int self;
  private int procedures;

  Programs(Random random) {
    this.random = random;
  }

  /** A text of 120 characters at most; now and then one that is no program. */
  String any() {
    String text = program();
    for (int n = 0; n < 50 && text.length() > 120; n++) {
      text = program();
    }
    if (text.length() > 120) {
      text = text.substring(0, 120);
    }
    if (!text.isEmpty() && random.nextInt(12) == 0) {
      int at = random.nextInt(text.length());
      String other = "abcdefxA[]{}()!?IWPQR=;<+-*/0123456789 z";
      text = text.substring(0, at) + other.charAt(random.nextInt(other.length()))
          + text.substring(at + random.nextInt(2));
    }
    return text.length() > 120 ? text.substring(0, 120) : text;
  }

  private String program() {
    StringBuilder text = new StringBuilder();
    procedures = random.nextInt(3) == 0 ? 0 : random.nextInt(4);
    for (int p = 0; p < procedures; p++) {
      self = p;
      text.append("PQR".charAt(p)).append('{').append(statements(3, 1 + random.nextInt(3)));
      text.append('}');
    }
    self = 3;
    return text.append(statements(4, 2 + random.nextInt(6))).toString();
  }

  private String statements(int depth, int most) {
    StringBuilder text = new StringBuilder();
    for (int n = random.nextInt(most + 1); n > 0; n--) {
      text.append(statement(depth));
    }
    return text.toString();
  }

  private char variable() {
    return "abcdef".charAt(random.nextInt(random.nextInt(3) == 0 ? 6 : 3));
  }

  private String statement(int depth) {
    int kind = random.nextInt(depth > 0 ? 12 : 8);
    int callable = Math.min(self, procedures);
    switch (kind) {
      case 0:
      case 1:
        return variable() + "=" + expression(2) + ";";
      case 2:
        return "A[" + expression(1) + "]=" + expression(1) + ";";
      case 3:
      case 4:
        return "!" + expression(2) + ";";
      case 5:
        return "?" + variable() + ";";
      case 6:
      case 7:
        return callable == 0 ? variable() + "=" + variable() + ";"
            : "PQR".charAt(random.nextInt(callable)) + "(" + expression(1) + ");";
      case 8:
      case 9:
        return "I" + expression(1) + "{" + statements(depth - 1, 2) + "}{"
            + statements(depth - 1, 2) + "}";
      default:
        return "W" + expression(2) + "{" + statements(depth - 1, 3) + "}";
    }
  }

  private String expression(int depth) {
    if (random.nextInt(4) == 0) {
      return sum(depth) + (random.nextBoolean() ? "<" : "=") + sum(depth);
    }
    return sum(depth);
  }

  private String sum(int depth) {
    StringBuilder text = new StringBuilder(factor(depth));
    for (int n = random.nextInt(3); n > 0; n--) {
      text.append("+-*/+-".charAt(random.nextInt(6))).append(factor(depth));
    }
    return text.toString();
  }

  private String factor(int depth) {
    switch (random.nextInt(depth > 0 ? 9 : 6)) {
      case 0:
      case 1:
        return String.valueOf(random.nextInt(random.nextInt(4) == 0 ? 100000 : 4));
      case 2:
        return self < 3 ? "x" : String.valueOf(variable());
      case 6:
        return "A[" + expression(depth - 1) + "]";
      case 7:
        return "(" + expression(depth - 1) + ")";
      case 8:
        return "-" + factor(depth - 1);
      default:
        return String.valueOf(variable());
    }
  }
}
