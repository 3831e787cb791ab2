import java.util.Arrays;
import java.util.NoSuchElementException;

/**
 * A compiler whose passes nobody has to trust: a change of the rows stays only if a walk over them
 * says the same as it did before.
 */
public final class PassChain {
  // Items.
  private static final int CONST = 0;
  private static final int MOVE = 1;
  private static final int WORK = 2;
  private static final int LOAD = 3;
  private static final int STORE = 4;
  private static final int INPUT = 5;
  private static final int PRINT = 6;
  private static final int CALL = 7;
  private static final int IF = 8;
  private static final int ELSE = 9;
  private static final int WHILE = 10;
  private static final int DO = 11;
  private static final int END = 12;

  // What o of a WORK is.
  private static final int ADD = 0;
  private static final int SUBTRACT = 1;
  private static final int MULTIPLY = 2;
  private static final int DIVIDE = 3;
  private static final int LESS = 4;
  private static final int EQUAL = 5;

  // Letters of the code; those of a WORK are LETTER_WORK + o.
  private static final int LETTER_NUMBER = 0;
  private static final int LETTER_GET = 1;
  private static final int LETTER_PUT = 2;
  private static final int LETTER_WORK = 3;
  private static final int LETTER_CELL = 9;
  private static final int LETTER_INTO = 10;
  private static final int LETTER_READ = 11;
  private static final int LETTER_SHOW = 12;
  private static final int LETTER_ZERO = 13;
  private static final int LETTER_GO = 14;
  private static final int LETTER_CALL = 15;
  private static final int LETTER_BACK = 16;
  private static final int LETTER_HALT = 17;

  // Passes.
  private static final int PASS_CONSTANTS = 0;
  private static final int PASS_COMMON = 1;
  private static final int PASS_DEAD = 2;
  private static final int PASS_HOIST = 3;
  private static final int PASS_INLINE = 4;

  // Kinds of things in the walk, and of names in the pass COMMON.
  private static final int THING_NUMBER = 0;
  private static final int THING_WORK = 1;
  private static final int THING_LOADED = 2;
  private static final int THING_FIRST_ARRAY = 3;
  private static final int THING_STORED = 4;
  private static final int THING_INPUT = 5;
  private static final int THING_CHOICE = 6;
  private static final int THING_CIRCLING = 7;
  private static final int THING_OWN_NAME = 8;

  // Words that the walk says.
  private static final int SAYS_DIVIDES = 0;
  private static final int SAYS_CELL = 1;
  private static final int SAYS_INPUT = 2;
  private static final int SAYS_PRINTS = 3;
  private static final int SAYS_IF = 4;
  private static final int SAYS_ELSE = 5;
  private static final int SAYS_WHILE = 6;
  private static final int SAYS_AS_LONG = 7;
  private static final int SAYS_END = 8;

  // The document's limits.
  private static final int TEXT_MOST = 120;
  private static final int BLOCKS_MOST = 5;
  private static final int NEST_MOST = 5;
  private static final int DIGITS_MOST = 5;
  private static final int REGISTERS_MOST = 60;
  private static final int SIZE_MOST = 150;
  private static final int WHILES_MOST = 3;
  private static final int INPUT_MOST = 20;
  private static final int PRINTED_MOST = 40;
  private static final int FUEL_MOST = 2000;

  private static final int PROCEDURES = 3;
  private static final int MAIN = 3;
  private static final int PARTS = 4;
  private static final int COMMON_REGISTERS = 6;
  private static final int X = 6;
  private static final int FIRST_OWN = 7;
  private static final int CELLS = 8;

  // A character makes two items at most (the minus of a factor does), so no text makes more.
  private static final int ITEMS_MOST = 2 * TEXT_MOST;
  private static final int WIDTH = 5;
  private static final int CODE_MOST = 4 * SIZE_MOST * PARTS + 1 + 2 * PROCEDURES;
  // In the main part 5 blocks lie in one another, in each procedure 4, with 3 CALLs between: 20.
  private static final int LEVELS = 24;
  // The array has its place behind the registers.
  private static final int ARRAY = REGISTERS_MOST;
  private static final int PLACES = REGISTERS_MOST + 1;
  // A WHILE has three items, so that a walk of SIZE_MOST items meets no more.
  private static final int WHILES_WALKED = SIZE_MOST / 3;
  private static final int NO_THING = -1;

  private static final int[] NUMBERS_OF = {2, 2, 4, 2, 2, 1, 1, 2, 1, 0, 0, 1, 0};
  private static final int[] READS_OF = {0, 1, 2, 1, 2, 0, 1, 1, 1, 0, 0, 1, 0};
  private static final int[] FIRST_READ_OF = {0, 1, 1, 1, 0, 0, 0, 0, 0, 0, 0, 0, 0};

  private final Parser parser = new Parser();
  private final Rows compiled = new Rows();
  private Rows now = new Rows();
  private Rows next = new Rows();
  private final Constants constants = new Constants();
  private final Names names = new Names();
  private final Mover mover = new Mover();
  private final Walker walker = new Walker();
  private final Code letters = new Code();
  private boolean lettersAreNew;
  private final Machine machine = new Machine();
  private int stayed;
  private int refused;

  public PassChain() {
  }

  public boolean put(int word, int n) {
    if (n < 1 || n > 4 || parser.length + n > TEXT_MOST) {
      return false;
    }
    for (int i = 0; i < n; i++) {
      int c = byteOf(word, i);
      if (c < 32 || c > 126) {
        return false;
      }
    }
    for (int i = n - 1; i >= 0; i--) {
      parser.append((char) byteOf(word, i));
    }
    return true;
  }

  private static int byteOf(int word, int i) {
    return (word >>> (8 * i)) & 255;
  }

  public int compile() throws IllegalArgumentException, IllegalStateException {
    boolean isProgram = parser.reads(next);
    parser.length = 0;
    if (!isProgram) {
      throw new IllegalArgumentException("the text is no program");
    }
    if (!next.withinLimits()) {
      throw new IllegalStateException("a part of the program is too great");
    }
    compiled.become(next);
    now.become(next);
    lettersAreNew = false;
    stayed = 0;
    refused = 0;
    return now.parts[MAIN].length;
  }

  public int pass(int kind) throws IllegalArgumentException {
    if (kind < PASS_CONSTANTS || kind > PASS_INLINE) {
      throw new IllegalArgumentException("no such pass");
    }
    next.become(now);
    int changes = 0;
    for (int p = 0; p < PARTS; p++) {
      if (now.has(p)) {
        changes += changesOfPass(kind, p);
      }
    }
    return staysIfTheSame() ? changes : -1;
  }

  private int changesOfPass(int kind, int p) {
    Part from = now.parts[p];
    Part to = next.parts[p];
    switch (kind) {
      case PASS_CONSTANTS:
        return constants.fold(from, to, p == MAIN);
      case PASS_COMMON:
        return names.share(to);
      case PASS_DEAD:
        return mover.drop(from, to, p != MAIN);
      case PASS_HOIST:
        return mover.hoist(to);
      default:
        return mover.inline(from, to, next);
    }
  }

  private boolean staysIfTheSame() {
    walker.walk(now, false);
    walker.walk(next, true);
    if (!walker.saidTheSame()) {
      refused++;
      return false;
    }
    Rows former = now;
    now = next;
    next = former;
    lettersAreNew = false;
    stayed++;
    return true;
  }

  public boolean touch(int part, int k, int which, int v) throws IllegalArgumentException {
    if (!mayTouch(part, k, which, v)) {
      throw new IllegalArgumentException("no such number, or it can't become that");
    }
    next.become(now);
    next.parts[part].setNumber(k, which, v);
    return staysIfTheSame();
  }

  private boolean mayTouch(int part, int k, int which, int v) {
    if (!now.has(part) || !now.parts[part].hasNumber(k, which)) {
      return false;
    }
    int kind = now.parts[part].kind(k);
    if (kind == CALL && which == 1) {
      return false;
    }
    if (kind == CONST && which == 1) {
      return true;
    }
    if (kind == WORK && which == 3) {
      return v >= ADD && v <= EQUAL;
    }
    return v >= 0 && v < now.parts[part].registers;
  }

  public boolean swap(int part, int k) throws IllegalArgumentException {
    if (!now.has(part) || !isMovable(now.parts[part], k) || !isMovable(now.parts[part], k + 1)) {
      throw new IllegalArgumentException("these two items can't change places");
    }
    next.become(now);
    next.parts[part].exchange(k, k + 1);
    return staysIfTheSame();
  }

  private static boolean isMovable(Part part, int k) {
    return part.has(k) && part.kind(k) <= CALL;
  }

  public void restore() {
    now.become(compiled);
    lettersAreNew = false;
  }

  public int size(int part, int what) {
    if (!now.has(part)) {
      return -1;
    }
    switch (what) {
      case 0:
        return now.parts[part].length;
      case 1:
        return now.parts[part].registers;
      default:
        return -1;
    }
  }

  public int item(int part, int k, int what) throws NoSuchElementException {
    if (!now.has(part) || !now.parts[part].has(k)) {
      throw new NoSuchElementException("no such item");
    }
    if (what == 0) {
      return now.parts[part].kind(k);
    }
    if (what < 0 || !now.parts[part].hasNumber(k, what - 1)) {
      throw new NoSuchElementException("no such number");
    }
    return now.parts[part].number(k, what - 1);
  }

  public int code(int place, int what) throws NoSuchElementException {
    makeLetters();
    if (place < 0 || place >= letters.length || what < 0 || what > 1) {
      throw new NoSuchElementException("no such letter or number");
    }
    return what == 0 ? letters.letterAt(place) : letters.numberAt(place);
  }

  private void makeLetters() {
    if (!lettersAreNew) {
      letters.makeOf(now);
      lettersAreNew = true;
    }
  }

  public boolean feed(int v) {
    if (machine.fed >= INPUT_MOST) {
      return false;
    }
    machine.input[machine.fed] = v;
    machine.fed++;
    return true;
  }

  public void dry() {
    machine.fed = 0;
  }

  public int run(int fuel) throws IllegalArgumentException {
    if (fuel < 1 || fuel > FUEL_MOST) {
      throw new IllegalArgumentException("fuel is not 1 .. 2000");
    }
    makeLetters();
    return machine.start(letters, fuel);
  }

  public int out(int k) throws NoSuchElementException {
    if (k < 0 || k >= machine.shown) {
      throw new NoSuchElementException("no such number was printed");
    }
    return machine.printed[k];
  }

  public int count(int what) {
    switch (what) {
      case 0:
        return parser.length;
      case 1:
        return now.procedures;
      case 2:
        makeLetters();
        return letters.length;
      case 3:
        return machine.fed;
      case 4:
        return machine.shown;
      case 5:
        return machine.steps;
      case 6:
        return stayed;
      case 7:
        return refused;
      default:
        return -1;
    }
  }

  /** What o makes of two numbers; who asks for a division has looked at t before. */
  private static int workOf(int o, int s, int t) {
    switch (o) {
      case ADD:
        return s + t;
      case SUBTRACT:
        return s - t;
      case MULTIPLY:
        return s * t;
      case DIVIDE:
        return t == 0 ? 0 : s / t;
      case LESS:
        return s < t ? 1 : 0;
      default:
        return s == t ? 1 : 0;
    }
  }

  /** The items of a procedure or of the main part, and how many registers it has. */
  private static final class Part {
    private static final int ITEMS_AT_FIRST = 16;

    private int[] row = new int[ITEMS_AT_FIRST * WIDTH];
    // IF and WHILE lead to their ELSE and DO, these to their END, and END back to IF or WHILE.
    private int[] mates = new int[ITEMS_AT_FIRST];
    int length;
    int registers = FIRST_OWN;

    boolean has(int k) {
      return k >= 0 && k < length;
    }

    int kind(int k) {
      return k >= 0 && k < length ? row[k * WIDTH] : END;
    }

    boolean hasNumber(int k, int which) {
      return has(k) && which >= 0 && which < NUMBERS_OF[kind(k)];
    }

    int number(int k, int which) {
      boolean isThere = k >= 0 && k < length && which >= 0 && which < WIDTH - 1;
      return isThere ? row[k * WIDTH + 1 + which] : 0;
    }

    void setNumber(int k, int which, int v) {
      if (k >= 0 && k < length && which >= 0 && which < WIDTH - 1) {
        row[k * WIDTH + 1 + which] = v;
      }
    }

    /** A number that is a register, fit to be used as an index in any case. */
    int register(int k, int which) {
      boolean isThere = k >= 0 && k < length && which >= 0 && which < WIDTH - 1;
      int r = isThere ? row[k * WIDTH + 1 + which] : 0;
      return r >= 0 && r < REGISTERS_MOST ? r : 0;
    }

    /** The register that item k writes, or -1; that a CALL may write 0 .. 5 is not told here. */
    int written(int k) {
      int kind = kind(k);
      return kind <= LOAD || kind == INPUT ? register(k, 0) : -1;
    }

    int reads(int k) {
      return READS_OF[kind(k)];
    }

    /** Which of the item's numbers is read i-th. */
    int readNumber(int k, int i) {
      return FIRST_READ_OF[kind(k)] + i;
    }

    /** CONST, MOVE and WORK that can't trap: what the passes may take away or do earlier. */
    boolean isHarmless(int k) {
      int kind = kind(k);
      return kind == CONST || kind == MOVE || kind == WORK && number(k, 3) != DIVIDE;
    }

    int mate(int k) {
      return k >= 0 && k < length ? mates[k] : k;
    }

    int endOf(int k) {
      return mate(mate(k));
    }

    void clear(int registersThen) {
      length = 0;
      registers = registersThen;
    }

    private void makeRoom(int items) {
      if (items > mates.length) {
        int room = Math.max(items, 2 * mates.length);
        row = Arrays.copyOf(row, room * WIDTH);
        mates = Arrays.copyOf(mates, room);
      }
    }

    void add(int kind, int first, int second) {
      if (length < ITEMS_MOST) {
        makeRoom(length + 1);
        int at = length * WIDTH;
        row[at] = kind;
        row[at + 1] = first;
        row[at + 2] = second;
        row[at + 3] = 0;
        row[at + 4] = 0;
        length++;
      }
    }

    void addCopy(Part from, int k) {
      if (from.has(k) && length < ITEMS_MOST) {
        makeRoom(length + 1);
        System.arraycopy(from.row, k * WIDTH, row, length * WIDTH, WIDTH);
        length++;
      }
    }

    void becomeMove(int k, int d, int s) {
      if (has(k)) {
        row[k * WIDTH] = MOVE;
        setNumber(k, 0, d);
        setNumber(k, 1, s);
      }
    }

    void exchange(int k, int l) {
      if (has(k) && has(l)) {
        for (int i = 0; i < WIDTH; i++) {
          int kept = row[k * WIDTH + i];
          row[k * WIDTH + i] = row[l * WIDTH + i];
          row[l * WIDTH + i] = kept;
        }
      }
    }

    void become(Part other) {
      makeRoom(other.length);
      System.arraycopy(other.row, 0, row, 0, other.length * WIDTH);
      System.arraycopy(other.mates, 0, mates, 0, other.length);
      length = other.length;
      registers = other.registers;
    }

    /** Finds the mates; the entry of what is open leads, until its END, to what is around it. */
    void link() {
      int open = -1;
      for (int k = 0; k < length; k++) {
        int kind = kind(k);
        if (kind == IF || kind == WHILE) {
          mates[k] = open;
          open = k;
        } else if (has(open) && (kind == ELSE || kind == DO)) {
          mates[k] = mates[open];
          mates[open] = k;
        } else if (has(open) && kind == END) {
          int middle = mates[open];
          int around = has(middle) ? mates[middle] : -1;
          if (has(middle)) {
            mates[middle] = k;
          }
          mates[k] = open;
          open = around;
        }
      }
    }
  }

  /** All parts of a program. */
  private static final class Rows {
    final Part[] parts = {new Part(), new Part(), new Part(), new Part()};
    int procedures;

    boolean has(int p) {
      return p == MAIN || p >= 0 && p < procedures;
    }

    void clear() {
      procedures = 0;
      for (int p = 0; p < PARTS; p++) {
        parts[p].clear(FIRST_OWN);
      }
    }

    void become(Rows other) {
      procedures = other.procedures;
      for (int p = 0; p < PARTS; p++) {
        if (other.has(p)) {
          parts[p].become(other.parts[p]);
        }
      }
    }

    boolean withinLimits() {
      int[] sizes = new int[PARTS];
      int[] depths = new int[PARTS];
      boolean within = true;
      for (int p = 0; p < PARTS; p++) {
        if (has(p)) {
          sizes[p] = sizeOf(parts[p], sizes);
          depths[p] = whileDepth(parts[p], depths);
          within = within && parts[p].registers <= REGISTERS_MOST && sizes[p] <= SIZE_MOST
              && depths[p] <= WHILES_MOST;
        }
      }
      return within;
    }

    private static int sizeOf(Part part, int[] sizes) {
      int size = part.length;
      for (int k = 0; k < part.length; k++) {
        if (part.kind(k) == CALL) {
          size += ofCalled(sizes, part.number(k, 1));
        }
      }
      return size;
    }

    private static int whileDepth(Part part, int[] depths) {
      int depth = 0;
      int deepest = 0;
      for (int k = 0; k < part.length; k++) {
        if (part.kind(k) == WHILE) {
          depth++;
          deepest = Math.max(deepest, depth);
        } else if (part.kind(k) == END && part.kind(part.mate(k)) == WHILE) {
          depth--;
        } else if (part.kind(k) == CALL) {
          deepest = Math.max(deepest, depth + ofCalled(depths, part.number(k, 1)));
        }
      }
      return deepest;
    }

    private static int ofCalled(int[] values, int p) {
      return p >= 0 && p < PROCEDURES ? values[p] : 0;
    }
  }

  /** Makes rows of a text. */
  private static final class Parser {
    private static final char NOTHING = 0;

    private final char[] text = new char[TEXT_MOST];
    int length;
    private int at;
    private boolean failed;
    private boolean isMain;
    private int callable;

    void append(char c) {
      if (length < TEXT_MOST) {
        text[length] = c;
        length++;
      }
    }

    /** Whether the text is a program; its items are in rows then, how many ever they are. */
    boolean reads(Rows rows) {
      at = 0;
      failed = false;
      isMain = false;
      rows.clear();
      for (int p = 0; p < PROCEDURES && beginsProcedure(p); p++) {
        at++;
        callable = p;
        block(rows.parts[p], 1);
        rows.procedures = p + 1;
      }
      isMain = true;
      callable = rows.procedures;
      statements(rows.parts[MAIN], 0);
      if (failed || at < length) {
        return false;
      }
      for (int p = 0; p < PARTS; p++) {
        rows.parts[p].link();
      }
      return true;
    }

    private boolean beginsProcedure(int p) {
      return !failed && peek() == 'P' + p && at + 1 < length && text[at + 1] == '{';
    }

    private char peek() {
      return at < length ? text[at] : NOTHING;
    }

    private void expect(char c) {
      if (peek() == c) {
        at++;
      } else {
        failed = true;
      }
    }

    private void block(Part part, int depth) {
      if (depth > BLOCKS_MOST) {
        failed = true;
        return;
      }
      expect('{');
      statements(part, depth);
      expect('}');
    }

    private void statements(Part part, int depth) {
      for (int n = 0; n < TEXT_MOST && !failed && at < length && peek() != '}'; n++) {
        statement(part, depth);
      }
    }

    private void statement(Part part, int depth) {
      char c = peek();
      at++;
      switch (c) {
        case 'A':
          store(part);
          break;
        case '!':
          part.add(PRINT, expression(part, 0), 0);
          expect(';');
          break;
        case '?':
          part.add(INPUT, variable(), 0);
          expect(';');
          break;
        case 'I':
          choice(part, depth);
          break;
        case 'W':
          loop(part, depth);
          break;
        case 'P':
        case 'Q':
        case 'R':
          call(part, c - 'P');
          break;
        default:
          assignment(part, c);
          break;
      }
    }

    private void store(Part part) {
      expect('[');
      int s = expression(part, 0);
      expect(']');
      expect('=');
      int t = expression(part, 0);
      expect(';');
      part.add(STORE, s, t);
    }

    private int variable() {
      char c = peek();
      expect(c);
      if (!isVariable(c)) {
        failed = true;
      }
      return c - 'a';
    }

    private static boolean isVariable(char c) {
      return c >= 'a' && c <= 'f';
    }

    private void choice(Part part, int depth) {
      part.add(IF, expression(part, 0), 0);
      block(part, depth + 1);
      part.add(ELSE, 0, 0);
      block(part, depth + 1);
      part.add(END, 0, 0);
    }

    private void loop(Part part, int depth) {
      part.add(WHILE, 0, 0);
      part.add(DO, expression(part, 0), 0);
      block(part, depth + 1);
      part.add(END, 0, 0);
    }

    private void call(Part part, int p) {
      if (p >= callable) {
        failed = true;
      }
      expect('(');
      int s = expression(part, 0);
      expect(')');
      expect(';');
      part.add(CALL, s, p);
    }

    private void assignment(Part part, char v) {
      if (!isVariable(v)) {
        failed = true;
      }
      expect('=');
      part.add(MOVE, v - 'a', expression(part, 0));
      expect(';');
    }

    /** Each of these answers the register in which the expression stands. */
    private int expression(Part part, int nest) {
      int left = sum(part, nest);
      char c = peek();
      if (failed || c != '<' && c != '=') {
        return left;
      }
      at++;
      return work(part, left, sum(part, nest), c == '<' ? LESS : EQUAL);
    }

    private int sum(Part part, int nest) {
      int left = product(part, nest);
      for (int n = 0; n < TEXT_MOST && !failed && (peek() == '+' || peek() == '-'); n++) {
        int o = peek() == '+' ? ADD : SUBTRACT;
        at++;
        left = work(part, left, product(part, nest), o);
      }
      return left;
    }

    private int product(Part part, int nest) {
      int left = factor(part, nest);
      for (int n = 0; n < TEXT_MOST && !failed && (peek() == '*' || peek() == '/'); n++) {
        int o = peek() == '*' ? MULTIPLY : DIVIDE;
        at++;
        left = work(part, left, factor(part, nest), o);
      }
      return left;
    }

    private int factor(Part part, int nest) {
      char c = peek();
      if (c >= '0' && c <= '9') {
        return constant(part, digits());
      }
      at++;
      if (isVariable(c)) {
        return c - 'a';
      }
      if (c == 'x' && !isMain) {
        return X;
      }
      if (failed || nest >= NEST_MOST) {
        failed = true;
        return 0;
      }
      return nested(part, c, nest + 1);
    }

    private int nested(Part part, char c, int nest) {
      switch (c) {
        case 'A':
          expect('[');
          int index = expression(part, nest);
          expect(']');
          int d = fresh(part);
          part.add(LOAD, d, index);
          return d;
        case '(':
          int inside = expression(part, nest);
          expect(')');
          return inside;
        case '-':
          int zero = constant(part, 0);
          return work(part, zero, factor(part, nest), SUBTRACT);
        default:
          failed = true;
          return 0;
      }
    }

    private int digits() {
      int n = 0;
      for (int i = 0; i < DIGITS_MOST && peek() >= '0' && peek() <= '9'; i++) {
        n = 10 * n + (peek() - '0');
        at++;
      }
      return n;
    }

    private int constant(Part part, int n) {
      int d = fresh(part);
      part.add(CONST, d, n);
      return d;
    }

    private int work(Part part, int s, int t, int o) {
      int d = fresh(part);
      part.add(WORK, d, s);
      part.setNumber(part.length - 1, 2, t);
      part.setNumber(part.length - 1, 3, o);
      return d;
    }

    private int fresh(Part part) {
      int d = part.registers;
      part.registers++;
      return d;
    }
  }

  /** The pass CONSTANTS. */
  private static final class Constants {
    // No int is this.
    private static final long UNKNOWN = 1L << 32;

    private final long[] known = new long[REGISTERS_MOST];
    // For each IF and WHILE around: what was known before (at DO), and behind the former items.
    private final long[][] before = new long[LEVELS][REGISTERS_MOST];
    private final long[][] behind = new long[LEVELS][REGISTERS_MOST];
    private final boolean[] goes = new boolean[ITEMS_MOST];
    private int level;
    private int changes;

    int fold(Part from, Part to, boolean isMain) {
      to.clear(from.registers);
      Arrays.fill(known, isMain ? 0L : UNKNOWN);
      for (int k = 0; k < ITEMS_MOST; k++) {
        goes[k] = false;
      }
      level = 0;
      changes = 0;
      for (int k = 0; k < from.length; k++) {
        k = Math.max(k, goOver(from, k, to));
      }
      to.link();
      return changes;
    }

    /** Answers the last item that is done with thereby. */
    private int goOver(Part from, int k, Part to) {
      switch (from.kind(k)) {
        case IF:
          return goOverIf(from, k, to);
        case ELSE:
          if (goes[k]) {
            return from.mate(k);
          }
          turnToLatter();
          break;
        case WHILE:
          forgetWritten(from, k);
          level++;
          break;
        case DO:
          keep(before);
          break;
        case END:
          if (goes[k]) {
            return k;
          }
          close(from.kind(from.mate(k)) == IF);
          break;
        default:
          goOverPlain(from, k, to);
          return k;
      }
      to.addCopy(from, k);
      return k;
    }

    private int goOverIf(Part from, int k, Part to) {
      long s = known[from.register(k, 0)];
      if (s == UNKNOWN) {
        to.addCopy(from, k);
        level++;
        keep(before);
        return k;
      }
      changes++;
      int middle = from.mate(k);
      int end = from.mate(middle);
      if (from.has(middle) && from.has(end)) {
        goes[middle] = true;
        goes[end] = true;
      }
      return s == 0 ? middle : k;
    }

    private boolean levelIsThere() {
      return level >= 1 && level <= LEVELS;
    }

    private void keep(long[][] where) {
      if (levelIsThere()) {
        System.arraycopy(known, 0, where[level - 1], 0, REGISTERS_MOST);
      }
    }

    private void recall(long[][] where) {
      if (levelIsThere()) {
        System.arraycopy(where[level - 1], 0, known, 0, REGISTERS_MOST);
      }
    }

    private void turnToLatter() {
      keep(behind);
      recall(before);
    }

    private void close(boolean isIf) {
      if (!isIf) {
        recall(before);
      } else if (levelIsThere()) {
        for (int r = 0; r < REGISTERS_MOST; r++) {
          if (known[r] != behind[level - 1][r]) {
            known[r] = UNKNOWN;
          }
        }
      }
      level--;
    }

    private void forgetWritten(Part from, int k) {
      int end = from.endOf(k);
      for (int i = k + 1; i < end; i++) {
        int d = from.written(i);
        if (d >= 0) {
          known[d] = UNKNOWN;
        } else if (from.kind(i) == CALL) {
          forgetCommon();
        }
      }
    }

    private void forgetCommon() {
      Arrays.fill(known, 0, COMMON_REGISTERS, UNKNOWN);
    }

    private void goOverPlain(Part from, int k, Part to) {
      long value = valueWritten(from, k);
      int d = from.written(k);
      if (d >= 0 && value != UNKNOWN && from.kind(k) != CONST) {
        to.add(CONST, d, (int) value);
        changes++;
      } else {
        to.addCopy(from, k);
      }
      if (d >= 0) {
        known[d] = value;
      } else if (from.kind(k) == CALL) {
        forgetCommon();
      }
    }

    private long valueWritten(Part from, int k) {
      switch (from.kind(k)) {
        case CONST:
          return from.number(k, 1);
        case MOVE:
          return known[from.register(k, 1)];
        case WORK:
          return worked(from.number(k, 3), known[from.register(k, 1)], known[from.register(k, 2)]);
        default:
          return UNKNOWN;
      }
    }

    private static long worked(int o, long s, long t) {
      if (s == UNKNOWN || t == UNKNOWN || o == DIVIDE && t == 0) {
        return UNKNOWN;
      }
      return workOf(o, (int) s, (int) t);
    }
  }

  /** The pass COMMON; names are things, made anew wherever each register gets one of its own. */
  private static final class Names {
    private final Things things = new Things();
    private final int[] nameOf = new int[REGISTERS_MOST];
    private int registers;
    private int stores;
    private int inputs;

    int share(Part part) {
      registers = Math.min(part.registers, REGISTERS_MOST);
      beginAnew();
      int changes = 0;
      for (int k = 0; k < part.length; k++) {
        boolean readsOthers = readLeast(part, k);
        boolean becameMove = goOver(part, k);
        if (readsOthers || becameMove) {
          changes++;
        }
      }
      return changes;
    }

    private void beginAnew() {
      things.dropTo(0);
      stores = 0;
      inputs = 0;
      for (int r = 0; r < registers; r++) {
        nameOf[r] = things.make(THING_OWN_NAME, r, 0, 0);
      }
    }

    private boolean readLeast(Part part, int k) {
      boolean changed = false;
      for (int i = 0; i < part.reads(k); i++) {
        int which = part.readNumber(k, i);
        int r = part.register(k, which);
        int least = leastWith(nameOf[r]);
        if (least >= 0 && least != r) {
          part.setNumber(k, which, least);
          changed = true;
        }
      }
      return changed;
    }

    private int leastWith(int name) {
      for (int r = 0; r < registers; r++) {
        if (nameOf[r] == name) {
          return r;
        }
      }
      return -1;
    }

    /** Whether the item became a MOVE. */
    private boolean goOver(Part part, int k) {
      int d = part.register(k, 0);
      int s = nameOf[part.register(k, 1)];
      switch (part.kind(k)) {
        case CONST:
          nameOf[d] = things.make(THING_NUMBER, part.number(k, 1), 0, 0);
          return false;
        case MOVE:
          nameOf[d] = s;
          return false;
        case WORK:
          int t = nameOf[part.register(k, 2)];
          return becomesMove(part, k, things.make(THING_WORK, part.number(k, 3), s, t));
        case LOAD:
          return becomesMove(part, k, things.make(THING_LOADED, s, stores, 0));
        case STORE:
          stores++;
          return false;
        case INPUT:
          nameOf[d] = things.make(THING_INPUT, inputs, 0, 0);
          inputs++;
          return false;
        case PRINT:
          return false;
        default:
          beginAnew();
          return false;
      }
    }

    private boolean becomesMove(Part part, int k, int name) {
      int d = part.register(k, 0);
      int least = leastWith(name);
      nameOf[d] = name;
      if (least < 0) {
        return false;
      }
      part.becomeMove(k, d, least);
      return true;
    }
  }

  /** The passes DEAD, HOIST and INLINE, which take items away or elsewhere. */
  private static final class Mover {
    private static final long COMMON_BITS = (1L << COMMON_REGISTERS) - 1;
    private static final int ROUNDS_MOST = SIZE_MOST * REGISTERS_MOST;

    // A bit for each register that is needed ahead of an item; one more for the part's end.
    private final long[] needed = new long[ITEMS_MOST + 1];
    private final int[] writers = new int[REGISTERS_MOST];

    int drop(Part from, Part to, boolean isProcedure) {
      findNeeded(from, isProcedure);
      to.clear(from.registers);
      for (int k = 0; k < from.length; k++) {
        if (!from.isHarmless(k) || isNeeded(from.written(k), neededAt(k + 1))) {
          to.addCopy(from, k);
        }
      }
      to.link();
      return from.length - to.length;
    }

    private static boolean isNeeded(int r, long bits) {
      return r >= 0 && (bits >>> r & 1) != 0;
    }

    /** Begins with nothing needed and adds only what must be, so that as many go as can. */
    private void findNeeded(Part part, boolean isProcedure) {
      Arrays.fill(needed, 0, part.length, 0L);
      needed[part.length] = isProcedure ? COMMON_BITS : 0;
      boolean grew = true;
      for (int round = 0; grew && round < ROUNDS_MOST; round++) {
        grew = false;
        for (int k = part.length - 1; k >= 0; k--) {
          long ahead = neededAhead(part, k);
          grew = grew || ahead != needed[k];
          needed[k] = ahead;
        }
      }
    }

    private long neededAhead(Part part, int k) {
      long behind = neededAt(k + 1);
      long read = readBits(part, k);
      int mate = part.mate(k);
      switch (part.kind(k)) {
        case IF:
        case DO:
          return behind | neededAt(mate + 1) | read;
        case ELSE:
          return neededAt(mate);
        case END:
          return part.kind(mate) == WHILE ? neededAt(mate) : behind;
        case CALL:
          return behind | COMMON_BITS | read;
        default:
          return neededAheadOfPlain(part, k, behind, read);
      }
    }

    private long neededAt(int k) {
      return k >= 0 && k < needed.length ? needed[k] : 0;
    }

    private static long neededAheadOfPlain(Part part, int k, long behind, long read) {
      int d = part.written(k);
      if (d < 0) {
        return behind | read;
      }
      if (part.isHarmless(k) && !isNeeded(d, behind)) {
        return behind;
      }
      return behind & ~(1L << d) | read;
    }

    private static long readBits(Part part, int k) {
      long bits = 0;
      for (int i = 0; i < part.reads(k); i++) {
        bits |= 1L << part.register(k, part.readNumber(k, i));
      }
      return bits;
    }

    /** From the last WHILE to the first: those inside others come first thereby. */
    int hoist(Part part) {
      int moved = 0;
      for (int k = part.length - 1; k >= 0; k--) {
        if (part.kind(k) == WHILE) {
          moved += hoistAhead(part, k);
          part.link();
        }
      }
      return moved;
    }

    private int hoistAhead(Part part, int loop) {
      int middle = part.mate(loop);
      countWriters(part, loop + 1, part.endOf(loop));
      int moved = 0;
      for (int k = loop + 1; k < middle; k++) {
        if (mayGoAhead(part, k)) {
          writers[part.register(k, 0)]--;
          // The WHILE has gone one on for each that went before.
          for (int i = k; i > loop + moved; i--) {
            part.exchange(i, i - 1);
          }
          moved++;
        }
      }
      return moved;
    }

    private void countWriters(Part part, int from, int to) {
      Arrays.fill(writers, 0);
      for (int k = from; k < to; k++) {
        int d = part.written(k);
        if (d >= 0) {
          writers[d]++;
        } else if (part.kind(k) == CALL) {
          for (int r = 0; r < COMMON_REGISTERS; r++) {
            writers[r]++;
          }
        }
      }
    }

    private boolean mayGoAhead(Part part, int k) {
      int d = part.written(k);
      if (!part.isHarmless(k) || d < FIRST_OWN || writers[d] != 1) {
        return false;
      }
      for (int i = 0; i < part.reads(k); i++) {
        if (writers[part.register(k, part.readNumber(k, i))] != 0) {
          return false;
        }
      }
      return true;
    }

    /** The parts called come before this one, so that rows has them as they are by then. */
    int inline(Part from, Part to, Rows rows) {
      int went = 0;
      to.clear(from.registers);
      for (int k = 0; k < from.length; k++) {
        int p = from.number(k, 1);
        if (from.kind(k) == CALL && p >= 0 && p < PROCEDURES && fitsIn(to, rows.parts[p])) {
          putIn(rows.parts[p], to, from.number(k, 0));
          went++;
        } else {
          to.addCopy(from, k);
        }
      }
      to.link();
      return went;
    }

    private static boolean fitsIn(Part to, Part called) {
      return to.registers + called.registers - X <= REGISTERS_MOST;
    }

    private static void putIn(Part called, Part to, int s) {
      int shift = to.registers - X;
      to.add(MOVE, to.registers, s);
      for (int k = 0; k < called.length; k++) {
        to.addCopy(called, k);
        shiftRegisters(to, to.length - 1, shift);
      }
      to.registers += called.registers - X;
    }

    private static void shiftRegisters(Part part, int k, int shift) {
      if (part.written(k) >= X) {
        part.setNumber(k, 0, part.number(k, 0) + shift);
      }
      for (int i = 0; i < part.reads(k); i++) {
        int which = part.readNumber(k, i);
        if (part.number(k, which) >= X) {
          part.setNumber(k, which, part.number(k, which) + shift);
        }
      }
    }
  }

  /** Things, each with a number of its own: two made alike are the same. */
  private static final class Things {
    private static final int FIELDS = 7;
    private static final int HASH = 4;
    private static final int SLOT = 5;
    private static final int LINK = 6;
    private static final int NOT_REACHED = -2;
    private static final int LAST = -1;
    private static final int AT_FIRST = 1 << 7;
    // Far above what two walks of SIZE_MOST items hold at once.
    private static final int MOST = 1 << 16;

    private int[] fields = new int[AT_FIRST * FIELDS];
    // A thing's number and 1, or 0; half of them at least are 0, and their number is a power of 2.
    private int[] slots = new int[AT_FIRST * 2];
    int made;
    int firstReached;
    private int lastReached;

    int make(int kind, int a, int b, int c) {
      int hash = ((kind * 31 + a) * 0x9E3779B1 + b) * 0x85EBCA6B + c * 0xC2B2AE35;
      hash ^= hash >>> 15;
      int slot = slotFor(hash, kind, a, b, c);
      if (slots[slot] != 0) {
        return slots[slot] - 1;
      }
      if (made >= MOST) {
        return 0;
      }
      if ((made + 1) * FIELDS > fields.length) {
        grow();
        slot = slotFor(hash, kind, a, b, c);
      }
      int at = made * FIELDS;
      fields[at] = kind;
      fields[at + 1] = a;
      fields[at + 2] = b;
      fields[at + 3] = c;
      fields[at + HASH] = hash;
      fields[at + SLOT] = slot;
      fields[at + LINK] = NOT_REACHED;
      made++;
      slots[slot] = made;
      return made - 1;
    }

    /** The slot where it is, or the empty one where it belongs. */
    private int slotFor(int hash, int kind, int a, int b, int c) {
      int mask = slots.length - 1;
      int slot = hash & mask;
      for (int n = 0; n < mask && slots[slot] != 0; n++) {
        int at = (slots[slot] - 1) * FIELDS;
        if (fields[at] == kind && fields[at + 1] == a && fields[at + 2] == b
            && fields[at + 3] == c) {
          return slot;
        }
        slot = slot + 1 & mask;
      }
      return slot;
    }

    private void grow() {
      fields = Arrays.copyOf(fields, fields.length * 2);
      slots = new int[slots.length * 2];
      int mask = slots.length - 1;
      for (int thing = 0; thing < made; thing++) {
        int slot = fields[thing * FIELDS + HASH] & mask;
        for (int n = 0; n < mask && slots[slot] != 0; n++) {
          slot = slot + 1 & mask;
        }
        slots[slot] = thing + 1;
        fields[thing * FIELDS + SLOT] = slot;
      }
    }

    /** Forgets the latest made; taken back in this order, no slot is missed by those that stay. */
    void dropTo(int howMany) {
      for (int thing = made - 1; thing >= howMany && thing >= 0; thing--) {
        slots[fields[thing * FIELDS + SLOT]] = 0;
        made--;
      }
    }

    boolean has(int thing) {
      return thing >= 0 && thing < made;
    }

    int kind(int thing) {
      return has(thing) ? fields[thing * FIELDS] : NO_THING;
    }

    int field(int thing, int i) {
      return has(thing) && i >= 0 && i < 3 ? fields[thing * FIELDS + 1 + i] : NO_THING;
    }

    boolean isNumber(int thing) {
      return thing >= 0 && thing < made && fields[thing * FIELDS] == THING_NUMBER;
    }

    /** The number that a thing is. */
    int value(int thing) {
      return thing >= 0 && thing < made ? fields[thing * FIELDS + 1] : 0;
    }

    /** Once at most for things that were made: each has been reached or not for good. */
    void beginReaching() {
      firstReached = NO_THING;
      lastReached = NO_THING;
    }

    /** Puts a thing at the end of the chain of those reached, unless it is there. */
    void reach(int thing) {
      if (has(thing) && fields[thing * FIELDS + LINK] == NOT_REACHED) {
        if (has(lastReached)) {
          fields[lastReached * FIELDS + LINK] = thing;
        } else {
          firstReached = thing;
        }
        fields[thing * FIELDS + LINK] = LAST;
        lastReached = thing;
      }
    }

    int reachedAfter(int thing) {
      return has(thing) ? fields[thing * FIELDS + LINK] : LAST;
    }

    /** Reaches the things of which this one is made. */
    void reachFields(int thing) {
      switch (kind(thing)) {
        case THING_WORK:
          reach(field(thing, 1));
          reach(field(thing, 2));
          break;
        case THING_LOADED:
          reach(field(thing, 0));
          reach(field(thing, 1));
          break;
        case THING_STORED:
        case THING_CHOICE:
          reach(field(thing, 0));
          reach(field(thing, 1));
          reach(field(thing, 2));
          break;
        default:
          break;
      }
    }
  }

  /** What a walk said, and what became of all that circled. */
  private static final class Tale {
    // No item says more than one word.
    private static final int WORDS_MOST = SIZE_MOST;

    private final int[] words = new int[WORDS_MOST];
    private final int[] things = new int[WORDS_MOST];
    int length;
    // Both made at the first WHILE: many programs have none.
    private int[] began;
    private int[] became;

    void clear() {
      length = 0;
    }

    void say(int word, int thing) {
      if (length < WORDS_MOST) {
        words[length] = word;
        things[length] = thing;
        length++;
      }
    }

    int thingSaid(int i) {
      return i >= 0 && i < length ? things[i] : NO_THING;
    }

    private static int indexOf(int loop, int place) {
      return loop >= 0 && loop < WHILES_WALKED && place >= 0 && place < PLACES
          ? loop * PLACES + place : -1;
    }

    void circled(int loop, int place, int first, int last) {
      if (began == null || became == null) {
        began = new int[WHILES_WALKED * PLACES];
        became = new int[WHILES_WALKED * PLACES];
      }
      int i = indexOf(loop, place);
      if (i >= 0) {
        began[i] = first;
        became[i] = last;
      }
    }

    int beganAs(int loop, int place) {
      int i = indexOf(loop, place);
      return began != null && i >= 0 ? began[i] : NO_THING;
    }

    int hadBecome(int loop, int place) {
      int i = indexOf(loop, place);
      return became != null && i >= 0 ? became[i] : NO_THING;
    }

    boolean saysWhat(Tale other) {
      boolean same = length == other.length;
      for (int i = 0; same && i < length; i++) {
        same = words[i] == other.words[i] && things[i] == other.things[i];
      }
      return same;
    }
  }

  /** The walk over the rows, with things in the place of numbers. */
  private static final class Walker {
    private static final int ROWS_A_LEVEL = 3;

    private final Things things = new Things();
    private final Tale toldBefore = new Tale();
    private final Tale toldAfter = new Tale();
    // For each IF, WHILE and CALL around, rows to keep registers and the array in.
    private final int[][] kept = new int[LEVELS * ROWS_A_LEVEL][PLACES];
    private final int[] mainPlaces = new int[PLACES];
    // What stands in the registers of the part that is gone over, and for the array.
    private int[] places = mainPlaces;
    private final int[] way = new int[SIZE_MOST];
    private int wayLength;
    private Tale tale = toldBefore;
    private Rows rows = new Rows();
    private boolean silent;
    private int whiles;
    private int inputs;

    /** The walk after a change keeps the things of the one before, to be compared with them. */
    void walk(Rows over, boolean isAfter) {
      if (!isAfter) {
        things.dropTo(0);
      }
      rows = over;
      tale = isAfter ? toldAfter : toldBefore;
      tale.clear();
      wayLength = 0;
      silent = false;
      whiles = 0;
      inputs = 0;
      places = mainPlaces;
      Arrays.fill(places, things.make(THING_NUMBER, 0, 0, 0));
      places[ARRAY] = things.make(THING_FIRST_ARRAY, 0, 0, 0);
      Part main = over.parts[MAIN];
      goOver(main, 0, main.length, 0);
    }

    private void say(int word, int thing) {
      if (!silent) {
        tale.say(word, thing);
      }
    }

    /** Says what must hold here, unless that was said on this way. */
    private void demand(int word, int thing) {
      int demanded = 2 * thing + word;
      boolean wasSaid = silent || wayLength >= way.length;
      for (int i = 0; i < wayLength && !wasSaid; i++) {
        wasSaid = way[i] == demanded;
      }
      if (!wasSaid) {
        way[wayLength] = demanded;
        wayLength++;
        tale.say(word, thing);
      }
    }

    private void goOver(Part part, int from, int to, int level) {
      if (level >= LEVELS) {
        return;
      }
      for (int k = from; k < to; k++) {
        switch (part.kind(k)) {
          case IF:
            goOverIf(part, k, level);
            k = Math.max(k, part.endOf(k));
            break;
          case WHILE:
            goOverWhile(part, k, level);
            k = Math.max(k, part.endOf(k));
            break;
          case CALL:
            goOverCall(part, k, level);
            break;
          default:
            goOverPlain(part, k);
            break;
        }
      }
    }

    private void goOverPlain(Part part, int k) {
      int first = part.register(k, 0);
      int second = part.register(k, 1);
      switch (part.kind(k)) {
        case CONST:
          places[first] = things.make(THING_NUMBER, part.number(k, 1), 0, 0);
          break;
        case MOVE:
          places[first] = places[second];
          break;
        case WORK:
          places[first] = worked(part.number(k, 3), places[second], places[part.register(k, 2)]);
          break;
        case LOAD:
          demandCell(places[second]);
          places[first] = things.make(THING_LOADED, places[ARRAY], places[second], 0);
          break;
        case STORE:
          demandCell(places[first]);
          places[ARRAY] =
              things.make(THING_STORED, places[ARRAY], places[first], places[second]);
          break;
        case INPUT:
          say(SAYS_INPUT, NO_THING);
          places[first] = things.make(THING_INPUT, inputs, 0, 0);
          inputs++;
          break;
        case PRINT:
          say(SAYS_PRINTS, places[first]);
          break;
        default:
          break;
      }
    }

    private int worked(int o, int s, int t) {
      boolean byZero = o == DIVIDE && things.isNumber(t) && things.value(t) == 0;
      if (o == DIVIDE && (byZero || !things.isNumber(t))) {
        demand(SAYS_DIVIDES, t);
      }
      if (things.isNumber(s) && things.isNumber(t) && !byZero) {
        return things.make(THING_NUMBER, workOf(o, things.value(s), things.value(t)), 0, 0);
      }
      return things.make(THING_WORK, o, s, t);
    }

    private void demandCell(int s) {
      if (!things.isNumber(s) || things.value(s) < 0 || things.value(s) >= CELLS) {
        demand(SAYS_CELL, s);
      }
    }

    private void goOverCall(Part part, int k, int level) {
      int p = part.number(k, 1);
      if (p < 0 || p >= PROCEDURES) {
        return;
      }
      int[] callers = places;
      int[] own = kept[level * ROWS_A_LEVEL];
      Arrays.fill(own, things.make(THING_NUMBER, 0, 0, 0));
      copyShared(callers, own);
      own[X] = callers[part.register(k, 0)];
      places = own;
      goOver(rows.parts[p], 0, rows.parts[p].length, level + 1);
      places = callers;
      copyShared(own, callers);
    }

    private static void copyShared(int[] from, int[] to) {
      System.arraycopy(from, 0, to, 0, COMMON_REGISTERS);
      to[ARRAY] = from[ARRAY];
    }

    private static void copyAll(int[] from, int[] to) {
      System.arraycopy(from, 0, to, 0, PLACES);
    }

    private void goOverIf(Part part, int k, int level) {
      int s = places[part.register(k, 0)];
      int middle = part.mate(k);
      int end = part.mate(middle);
      if (things.isNumber(s)) {
        boolean isFormer = things.value(s) != 0;
        goOver(part, isFormer ? k + 1 : middle + 1, isFormer ? middle : end, level + 1);
        return;
      }
      int[] before = kept[level * ROWS_A_LEVEL];
      int[] behindFormer = kept[level * ROWS_A_LEVEL + 1];
      int wayBefore = wayLength;
      copyAll(places, before);
      say(SAYS_IF, s);
      goOver(part, k + 1, middle, level + 1);
      copyAll(places, behindFormer);
      copyAll(before, places);
      wayLength = wayBefore;
      say(SAYS_ELSE, NO_THING);
      goOver(part, middle + 1, end, level + 1);
      wayLength = wayBefore;
      say(SAYS_END, NO_THING);
      for (int i = 0; i < PLACES; i++) {
        if (behindFormer[i] != places[i]) {
          places[i] = things.make(THING_CHOICE, s, behindFormer[i], places[i]);
        }
      }
    }

    private void goOverWhile(Part part, int k, int level) {
      int loop = whiles;
      whiles++;
      int[] before = kept[level * ROWS_A_LEVEL];
      int[] circling = kept[level * ROWS_A_LEVEL + 1];
      int[] atDo = kept[level * ROWS_A_LEVEL + 2];
      int middle = part.mate(k);
      copyAll(places, before);
      findCircling(part, k, level);
      begin(before, circling);
      int wayBefore = wayLength;
      say(SAYS_WHILE, NO_THING);
      goOver(part, k + 1, middle, level + 1);
      say(SAYS_AS_LONG, places[part.register(middle, 0)]);
      copyAll(places, atDo);
      goOver(part, middle + 1, part.mate(middle), level + 1);
      say(SAYS_END, NO_THING);
      wayLength = wayBefore;
      if (!silent) {
        tellCircling(loop, before, circling);
      }
      copyAll(atDo, places);
    }

    /** Leaves in the level's row of circling ones a circling thing for each that does, or none. */
    private void findCircling(Part part, int k, int level) {
      int[] before = kept[level * ROWS_A_LEVEL];
      int[] circling = kept[level * ROWS_A_LEVEL + 1];
      int middle = part.mate(k);
      int whilesThen = whiles;
      int inputsThen = inputs;
      boolean wasSilent = silent;
      Arrays.fill(circling, NO_THING);
      for (int i = 0; i < PLACES; i++) {
        if (i < part.registers || i == ARRAY) {
          circling[i] = things.make(THING_CIRCLING, whilesThen - 1, i, 0);
        }
      }
      silent = true;
      boolean allChange = false;
      for (int round = 0; round <= PLACES && !allChange; round++) {
        int madeThen = things.made;
        begin(before, circling);
        goOver(part, k + 1, middle, level + 1);
        goOver(part, middle + 1, part.mate(middle), level + 1);
        allChange = !leaveUnchanged(circling);
        things.dropTo(madeThen);
        whiles = whilesThen;
        inputs = inputsThen;
      }
      silent = wasSilent;
    }

    private void begin(int[] before, int[] circling) {
      for (int i = 0; i < PLACES; i++) {
        places[i] = circling[i] == NO_THING ? before[i] : circling[i];
      }
    }

    private boolean leaveUnchanged(int[] circling) {
      boolean left = false;
      for (int i = 0; i < PLACES; i++) {
        if (circling[i] != NO_THING && circling[i] == places[i]) {
          circling[i] = NO_THING;
          left = true;
        }
      }
      return left;
    }

    private void tellCircling(int loop, int[] before, int[] circling) {
      for (int i = 0; i < PLACES; i++) {
        if (circling[i] != NO_THING) {
          tale.circled(loop, i, before[i], places[i]);
        }
      }
    }

    boolean saidTheSame() {
      if (!toldBefore.saysWhat(toldAfter)) {
        return false;
      }
      things.beginReaching();
      for (int i = 0; i < toldBefore.length; i++) {
        things.reach(toldBefore.thingSaid(i));
      }
      boolean alike = true;
      int thing = things.firstReached;
      for (int n = 0; alike && things.has(thing) && n < Things.MOST; n++) {
        things.reachFields(thing);
        if (things.kind(thing) == THING_CIRCLING) {
          alike = circlesAlike(thing);
        }
        thing = things.reachedAfter(thing);
      }
      return alike;
    }

    /** The circling things that stand in these are looked at, too, as they are reached now. */
    private boolean circlesAlike(int thing) {
      int loop = things.field(thing, 0);
      int place = things.field(thing, 1);
      int first = toldBefore.beganAs(loop, place);
      int last = toldBefore.hadBecome(loop, place);
      things.reach(first);
      things.reach(last);
      return first == toldAfter.beganAs(loop, place) && last == toldAfter.hadBecome(loop, place);
    }
  }

  /** Code for the stack, made of the rows. */
  private static final class Code {
    private static final int LETTERS_AT_FIRST = 128;

    private int[] letters = new int[LETTERS_AT_FIRST];
    private int[] numbers = new int[LETTERS_AT_FIRST];
    int length;
    // For ELSE and END the place of the letter that leads behind it, for WHILE its own.
    private final int[] waiting = new int[ITEMS_MOST];
    private final int[] entries = new int[PROCEDURES];

    int letterAt(int place) {
      return place >= 0 && place < length ? letters[place] : LETTER_HALT;
    }

    int numberAt(int place) {
      return place >= 0 && place < length ? numbers[place] : 0;
    }

    void makeOf(Rows rows) {
      length = 0;
      addItems(rows.parts[MAIN]);
      add(LETTER_HALT, 0);
      for (int p = 0; p < PROCEDURES && p < rows.procedures; p++) {
        entries[p] = length;
        add(LETTER_PUT, X);
        addItems(rows.parts[p]);
        add(LETTER_BACK, 0);
      }
      for (int i = 0; i < length; i++) {
        int p = numbers[i];
        if (letters[i] == LETTER_CALL && p >= 0 && p < PROCEDURES) {
          numbers[i] = entries[p];
        }
      }
    }

    private void add(int letter, int number) {
      if (length == letters.length) {
        letters = Arrays.copyOf(letters, 2 * length);
        numbers = Arrays.copyOf(numbers, 2 * length);
      }
      if (length < CODE_MOST) {
        letters[length] = letter;
        numbers[length] = number;
        length++;
      }
    }

    private void addItems(Part part) {
      for (int k = 0; k < part.length; k++) {
        if (part.kind(k) < IF) {
          addPlain(part, k);
        } else {
          addTurn(part, k);
        }
      }
    }

    private void addPlain(Part part, int k) {
      int kind = part.kind(k);
      for (int i = 0; i < part.reads(k); i++) {
        add(LETTER_GET, part.number(k, part.readNumber(k, i)));
      }
      switch (kind) {
        case CONST:
          add(LETTER_NUMBER, part.number(k, 1));
          break;
        case WORK:
          add(LETTER_WORK + part.number(k, 3), 0);
          break;
        case LOAD:
          add(LETTER_CELL, 0);
          break;
        case STORE:
          add(LETTER_INTO, 0);
          break;
        case INPUT:
          add(LETTER_READ, 0);
          break;
        case PRINT:
          add(LETTER_SHOW, 0);
          break;
        case CALL:
          add(LETTER_CALL, part.number(k, 1));
          break;
        default:
          break;
      }
      if (part.written(k) >= 0) {
        add(LETTER_PUT, part.number(k, 0));
      }
    }

    private void addTurn(Part part, int k) {
      int mate = part.mate(k);
      switch (part.kind(k)) {
        case IF:
        case DO:
          add(LETTER_GET, part.number(k, 0));
          await(mate);
          add(LETTER_ZERO, 0);
          break;
        case ELSE:
          int zero = waiting[k];
          await(mate);
          add(LETTER_GO, 0);
          lead(zero);
          break;
        case WHILE:
          await(k);
          break;
        default:
          if (part.kind(mate) == WHILE) {
            add(LETTER_GO, waiting[mate]);
          }
          lead(waiting[k]);
          break;
      }
    }

    private void await(int k) {
      if (k >= 0 && k < waiting.length) {
        waiting[k] = length;
      }
    }

    private void lead(int place) {
      if (place >= 0 && place < length) {
        numbers[place] = length;
      }
    }
  }

  /** Runs code. */
  private static final class Machine {
    private static final int GOES_ON = -1;
    private static final int HALTED = 0;
    private static final int DIVIDED_BY_ZERO = 1;
    private static final int NO_CELL = 2;
    private static final int NO_FUEL = 3;
    private static final int TOO_MUCH_PRINTED = 4;
    // An operation takes two, and no item leaves anything.
    private static final int STACK_MOST = 4;

    final int[] input = new int[INPUT_MOST];
    int fed;
    final int[] printed = new int[PRINTED_MOST];
    int shown;
    int steps;
    private int inputRead;
    private final int[] cells = new int[CELLS];
    private final int[] common = new int[COMMON_REGISTERS];
    // Registers from 6 on, for each CALL that is open.
    private final int[][] own = new int[PARTS][REGISTERS_MOST];
    private final int[] backs = new int[PARTS];
    private int depth;
    private final int[] stack = new int[STACK_MOST];
    private int top;
    private int place;

    int start(Code code, int fuel) {
      Arrays.fill(cells, 0);
      Arrays.fill(common, 0);
      Arrays.fill(own[0], 0);
      depth = 0;
      top = 0;
      place = 0;
      shown = 0;
      steps = 0;
      inputRead = 0;
      int end = GOES_ON;
      for (int n = 0; n < fuel && end == GOES_ON; n++) {
        end = step(code.letterAt(place), code.numberAt(place));
      }
      return end == GOES_ON ? NO_FUEL : end;
    }

    private int step(int letter, int number) {
      if (letter == LETTER_SHOW && shown >= PRINTED_MOST) {
        return TOO_MUCH_PRINTED;
      }
      steps++;
      place++;
      if (letter >= LETTER_WORK && letter < LETTER_CELL) {
        return doWork(letter - LETTER_WORK);
      }
      if (letter >= LETTER_ZERO) {
        return turn(letter, number);
      }
      switch (letter) {
        case LETTER_NUMBER:
          push(number);
          break;
        case LETTER_GET:
          push(get(number));
          break;
        case LETTER_PUT:
          set(number, pop());
          break;
        case LETTER_CELL:
          return loadCell(pop());
        case LETTER_INTO:
          int value = pop();
          return storeCell(pop(), value);
        case LETTER_READ:
          push(nextInput());
          break;
        default:
          show(pop());
          break;
      }
      return GOES_ON;
    }

    private int turn(int letter, int number) {
      switch (letter) {
        case LETTER_ZERO:
          if (pop() == 0) {
            place = number;
          }
          return GOES_ON;
        case LETTER_GO:
          place = number;
          return GOES_ON;
        case LETTER_CALL:
          enter(number);
          return GOES_ON;
        case LETTER_BACK:
          leave();
          return GOES_ON;
        default:
          return HALTED;
      }
    }

    private void push(int v) {
      if (top < STACK_MOST) {
        stack[top] = v;
        top++;
      }
    }

    private int pop() {
      if (top <= 0) {
        return 0;
      }
      top--;
      return stack[top];
    }

    private int get(int r) {
      if (r < 0 || r >= REGISTERS_MOST) {
        return 0;
      }
      return r < COMMON_REGISTERS ? common[r] : own[depth][r];
    }

    private void set(int r, int v) {
      if (r >= 0 && r < COMMON_REGISTERS) {
        common[r] = v;
      } else if (r >= COMMON_REGISTERS && r < REGISTERS_MOST) {
        own[depth][r] = v;
      }
    }

    private int doWork(int o) {
      int t = pop();
      int s = pop();
      if (o == DIVIDE && t == 0) {
        return DIVIDED_BY_ZERO;
      }
      push(workOf(o, s, t));
      return GOES_ON;
    }

    private int loadCell(int index) {
      if (index < 0 || index >= CELLS) {
        return NO_CELL;
      }
      push(cells[index]);
      return GOES_ON;
    }

    private int storeCell(int index, int v) {
      if (index < 0 || index >= CELLS) {
        return NO_CELL;
      }
      cells[index] = v;
      return GOES_ON;
    }

    private int nextInput() {
      if (inputRead >= fed || inputRead >= INPUT_MOST) {
        return 0;
      }
      inputRead++;
      return input[inputRead - 1];
    }

    private void show(int v) {
      if (shown < PRINTED_MOST) {
        printed[shown] = v;
        shown++;
      }
    }

    private void enter(int entry) {
      if (depth + 1 < PARTS) {
        backs[depth] = place;
        depth++;
        Arrays.fill(own[depth], 0);
        place = entry;
      }
    }

    private void leave() {
      if (depth > 0) {
        depth--;
        place = backs[depth];
      }
    }
  }
}
