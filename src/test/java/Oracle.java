import java.util.ArrayList;
import java.util.Arrays;
import java.util.HashMap;
import java.util.HashSet;
import java.util.List;
import java.util.Map;
import java.util.Set;
import java.util.TreeSet;

/**
 * The document told once more, as plainly as it goes and in another way than the class does it:
 * parts are trees, things are texts in a map, states are copied whenever that is simplest.
 */
final class Oracle {
  /** An item; IF and WHILE hold the items inside (a WHILE's own number is its DO's). */
  static final class Item {
    final int kind;
    final int[] n;
    final List<Item> former = new ArrayList<>();
    final List<Item> latter = new ArrayList<>();

    Item(int kind, int... n) {
      this.kind = kind;
      this.n = n;
    }

    Item copy() {
      Item item = new Item(kind, n.clone());
      item.former.addAll(copyOf(former));
      item.latter.addAll(copyOf(latter));
      return item;
    }

    boolean holds() {
      return kind == 8 || kind == 10;
    }

    int writes() {
      return kind <= 3 || kind == 5 ? n[0] : -1;
    }

    /** Places in n of the registers that it reads. */
    int[] readAt() {
      switch (kind) {
        case 1:
        case 3:
          return new int[] {1};
        case 2:
          return new int[] {1, 2};
        case 4:
          return new int[] {0, 1};
        case 6:
        case 7:
        case 8:
        case 10:
          return new int[] {0};
        default:
          return new int[0];
      }
    }
  }

  /** A part. */
  static final class Row {
    List<Item> items = new ArrayList<>();
    int registers = 7;

    Row copy() {
      Row row = new Row();
      row.items = copyOf(items);
      row.registers = registers;
      return row;
    }
  }

  static List<Item> copyOf(List<Item> items) {
    List<Item> copies = new ArrayList<>();
    for (Item item : items) {
      copies.add(item.copy());
    }
    return copies;
  }

  static Row[] copyOf(Row[] rows) {
    Row[] copies = new Row[4];
    for (int p = 0; p < 4; p++) {
      copies[p] = rows[p] == null ? null : rows[p].copy();
    }
    return copies;
  }

  Row[] compiled = {null, null, null, new Row()};
  Row[] now = {null, null, null, new Row()};
  int stayed = 0;
  int refused = 0;

  // ---- flat rows, as item() tells them

  static List<int[]> flat(List<Item> items) {
    List<int[]> all = new ArrayList<>();
    for (Item item : items) {
      if (item.kind == 8) {
        all.add(new int[] {8, item.n[0]});
        all.addAll(flat(item.former));
        all.add(new int[] {9});
        all.addAll(flat(item.latter));
        all.add(new int[] {12});
      } else if (item.kind == 10) {
        all.add(new int[] {10});
        all.addAll(flat(item.former));
        all.add(new int[] {11, item.n[0]});
        all.addAll(flat(item.latter));
        all.add(new int[] {12});
      } else {
        int[] one = new int[item.n.length + 1];
        one[0] = item.kind;
        System.arraycopy(item.n, 0, one, 1, item.n.length);
        all.add(one);
      }
    }
    return all;
  }

  String rows(int p) {
    StringBuilder told = new StringBuilder();
    if (now[p] != null) {
      for (int[] one : flat(now[p].items)) {
        told.append(told.length() == 0 ? "" : "; ");
        for (int i = 0; i < one.length; i++) {
          told.append(i == 0 ? "" : " ").append(one[i]);
        }
      }
    }
    return told.toString();
  }

  // ---- compile

  private String text;
  private int at;
  private Row row;
  private int self;
  private int callable;

  /** The answer of compile, as Check tells it. */
  long compile(String program) {
    Row[] rows = {null, null, null, new Row()};
    try {
      parse(program, rows);
    } catch (IllegalArgumentException e) {
      return Check.ARGUMENT;
    }
    int[] sizes = new int[4];
    int[] deep = new int[4];
    for (int p = 0; p < 4; p++) {
      if (rows[p] != null) {
        sizes[p] = sizeOf(rows[p].items, sizes);
        deep[p] = depthOf(rows[p].items, deep);
        if (rows[p].registers > 60 || sizes[p] > 150 || deep[p] > 3) {
          return Check.STATE;
        }
      }
    }
    compiled = rows;
    now = copyOf(rows);
    stayed = 0;
    refused = 0;
    return flat(now[3].items).size();
  }

  private static int sizeOf(List<Item> items, int[] sizes) {
    int size = 0;
    for (int[] one : flat(items)) {
      size += 1 + (one[0] == 7 ? sizes[one[2]] : 0);
    }
    return size;
  }

  private static int depthOf(List<Item> items, int[] deep) {
    int depth = 0;
    for (Item item : items) {
      int inside = item.kind == 7 ? deep[item.n[1]]
          : Math.max(depthOf(item.former, deep), depthOf(item.latter, deep))
              + (item.kind == 10 ? 1 : 0);
      depth = Math.max(depth, inside);
    }
    return depth;
  }

  private void parse(String program, Row[] rows) {
    text = program + "\n";
    at = 0;
    callable = 0;
    for (int p = 0; p < 3 && text.startsWith("PQR".charAt(p) + "{", at); p++) {
      at++;
      rows[p] = new Row();
      row = rows[p];
      self = p;
      row.items = block(4);
      callable = p + 1;
    }
    row = rows[3];
    self = 3;
    row.items = statements(5);
    take('\n');
  }

  private boolean sees(String any) {
    return any.indexOf(text.charAt(at)) >= 0;
  }

  private char take(String any) {
    if (at >= text.length() || !sees(any)) {
      throw new IllegalArgumentException();
    }
    at++;
    return text.charAt(at - 1);
  }

  private void take(char c) {
    take(String.valueOf(c));
  }

  private List<Item> block(int more) {
    take('{');
    List<Item> inside = statements(more);
    take('}');
    return inside;
  }

  private List<Item> statements(int more) {
    List<Item> into = new ArrayList<>();
    while (!sees("}\n")) {
      char c = take("abcdefA!?IWPQR");
      if ("abcdef".indexOf(c) >= 0) {
        take('=');
        into.add(new Item(1, c - 'a', expression(into, 5)));
        take(';');
      } else if (c == 'A') {
        take('[');
        int s = expression(into, 5);
        take(']');
        take('=');
        into.add(new Item(4, s, expression(into, 5)));
        take(';');
      } else if (c == '!') {
        into.add(new Item(6, expression(into, 5)));
        take(';');
      } else if (c == '?') {
        into.add(new Item(5, take("abcdef") - 'a'));
        take(';');
      } else if (c == 'I') {
        int s = expression(into, 5);
        Item item = new Item(8, s);
        mustHave(more);
        item.former.addAll(block(more - 1));
        item.latter.addAll(block(more - 1));
        into.add(item);
      } else if (c == 'W') {
        List<Item> before = new ArrayList<>();
        Item item = new Item(10, expression(before, 5));
        item.former.addAll(before);
        mustHave(more);
        item.latter.addAll(block(more - 1));
        into.add(item);
      } else {
        if (c - 'P' >= Math.min(callable, self)) {
          throw new IllegalArgumentException();
        }
        take('(');
        into.add(new Item(7, expression(into, 5), c - 'P'));
        take(')');
        take(';');
      }
    }
    return into;
  }

  private static void mustHave(int more) {
    if (more < 1) {
      throw new IllegalArgumentException();
    }
  }

  private int added(List<Item> into, Item item) {
    item.n[0] = row.registers++;
    into.add(item);
    return item.n[0];
  }

  private int expression(List<Item> into, int more) {
    int left = sum(into, more);
    if (sees("<=")) {
      int o = take("<=") == '<' ? 4 : 5;
      left = added(into, new Item(2, 0, left, sum(into, more), o));
    }
    return left;
  }

  private int sum(List<Item> into, int more) {
    int left = product(into, more);
    while (sees("+-")) {
      int o = "+-".indexOf(take("+-"));
      left = added(into, new Item(2, 0, left, product(into, more), o));
    }
    return left;
  }

  private int product(List<Item> into, int more) {
    int left = factor(into, more);
    while (sees("*/")) {
      int o = 2 + "*/".indexOf(take("*/"));
      left = added(into, new Item(2, 0, left, factor(into, more), o));
    }
    return left;
  }

  private int factor(List<Item> into, int more) {
    if (sees("0123456789")) {
      String digits = "";
      while (sees("0123456789")) {
        digits += take("0123456789");
      }
      if (digits.length() > 5) {
        throw new IllegalArgumentException();
      }
      return added(into, new Item(0, 0, Integer.parseInt(digits)));
    }
    char c = take(self == 3 ? "abcdefA(-" : "abcdefxA(-");
    if (c == 'x') {
      return 6;
    }
    if (c >= 'a' && c <= 'f') {
      return c - 'a';
    }
    mustHave(more);
    if (c == 'A') {
      take('[');
      int s = expression(into, more - 1);
      take(']');
      return added(into, new Item(3, 0, s));
    }
    if (c == '(') {
      int s = expression(into, more - 1);
      take(')');
      return s;
    }
    int zero = added(into, new Item(0, 0, 0));
    return added(into, new Item(2, 0, zero, factor(into, more - 1), 1));
  }

  // ---- changes

  private boolean stays(Row[] changed) {
    Walk.SHORT.clear();
    Walk.LONG.clear();
    Walk before = new Walk(now);
    Walk after = new Walk(changed);
    if (!before.tells().equals(after.tells())) {
      refused++;
      return false;
    }
    now = changed;
    stayed++;
    return true;
  }

  long touch(int p, int k, int which, int v) {
    if (p < 0 || p > 3 || now[p] == null) {
      return Check.ARGUMENT;
    }
    Row[] changed = copyOf(now);
    List<int[]> all = flat(changed[p].items);
    if (k < 0 || k >= all.size() || which < 0 || which >= all.get(k).length - 1) {
      return Check.ARGUMENT;
    }
    int kind = all.get(k)[0];
    boolean isNumber = kind == 0 && which == 1;
    boolean isWork = kind == 2 && which == 3;
    boolean isPart = kind == 7 && which == 1;
    if (isPart || isWork && (v < 0 || v > 5)
        || !isNumber && !isWork && (v < 0 || v >= now[p].registers)) {
      return Check.ARGUMENT;
    }
    all.get(k)[which + 1] = v;
    changed[p].items = treeOf(all);
    return Check.of(stays(changed));
  }

  long swap(int p, int k) {
    if (p < 0 || p > 3 || now[p] == null) {
      return Check.ARGUMENT;
    }
    Row[] changed = copyOf(now);
    List<int[]> all = flat(changed[p].items);
    if (k < 0 || k >= all.size() - 1 || all.get(k)[0] > 7 || all.get(k + 1)[0] > 7) {
      return Check.ARGUMENT;
    }
    int[] one = all.get(k);
    all.set(k, all.get(k + 1));
    all.set(k + 1, one);
    changed[p].items = treeOf(all);
    return Check.of(stays(changed));
  }

  private int read;

  private List<Item> treeOf(List<int[]> all) {
    read = 0;
    return treesUpTo(all, 99);
  }

  private List<Item> treesUpTo(List<int[]> all, int closing) {
    List<Item> items = new ArrayList<>();
    while (read < all.size()) {
      int[] one = all.get(read++);
      if (one[0] == closing) {
        return items;
      }
      Item item = new Item(one[0], Arrays.copyOfRange(one, 1, one.length));
      if (one[0] == 8) {
        item.former.addAll(treesUpTo(all, 9));
        item.latter.addAll(treesUpTo(all, 12));
      } else if (one[0] == 10) {
        List<Item> former = treesUpTo(all, 11);
        item = new Item(10, all.get(read - 1)[1]);
        item.former.addAll(former);
        item.latter.addAll(treesUpTo(all, 12));
      }
      items.add(item);
    }
    return items;
  }

  void restore() {
    now = copyOf(compiled);
  }

  long pass(int kind) {
    if (kind < 0 || kind > 4) {
      return Check.ARGUMENT;
    }
    Row[] changed = copyOf(now);
    changes = 0;
    for (int p = 0; p < 4; p++) {
      if (changed[p] == null) {
        continue;
      }
      Row part = changed[p];
      if (kind == 0) {
        Map<Integer, Integer> known = new HashMap<>();
        for (int r = 0; p == 3 && r < part.registers; r++) {
          known.put(r, 0);
        }
        part.items = constants(part.items, known);
      } else if (kind == 1) {
        common(part);
      } else if (kind == 2) {
        dead(part, p != 3);
      } else if (kind == 3) {
        part.items = hoisted(part.items);
      } else {
        part.items = inlined(part.items, part, changed);
      }
    }
    int made = changes;
    return stays(changed) ? made : -1;
  }

  private int changes;

  // ---- 0 CONSTANTS

  private List<Item> constants(List<Item> items, Map<Integer, Integer> known) {
    List<Item> left = new ArrayList<>();
    for (Item item : items) {
      if (item.kind == 8 && known.containsKey(item.n[0])) {
        changes++;
        left.addAll(constants(known.get(item.n[0]) != 0 ? item.former : item.latter, known));
      } else if (item.kind == 8) {
        Map<Integer, Integer> other = new HashMap<>(known);
        Item one = new Item(8, item.n);
        one.former.addAll(constants(item.former, known));
        one.latter.addAll(constants(item.latter, other));
        known.entrySet().retainAll(other.entrySet());
        left.add(one);
      } else if (item.kind == 10) {
        known.keySet().removeAll(allWritten(item));
        Item one = new Item(10, item.n);
        one.former.addAll(constants(item.former, known));
        one.latter.addAll(constants(item.latter, new HashMap<>(known)));
        left.add(one);
      } else {
        left.add(constant(item, known));
      }
    }
    return left;
  }

  private Item constant(Item item, Map<Integer, Integer> known) {
    Integer value = null;
    if (item.kind == 0) {
      value = item.n[1];
    } else if (item.kind == 1) {
      value = known.get(item.n[1]);
    } else if (item.kind == 2 && known.containsKey(item.n[1]) && known.containsKey(item.n[2])) {
      value = work(item.n[3], known.get(item.n[1]), known.get(item.n[2]));
    }
    known.keySet().removeAll(written(item));
    if (value == null) {
      return item;
    }
    known.put(item.n[0], value);
    if (item.kind != 0) {
      changes++;
    }
    return new Item(0, item.n[0], value);
  }

  static Integer work(int o, int s, int t) {
    switch (o) {
      case 0:
        return s + t;
      case 1:
        return s - t;
      case 2:
        return s * t;
      case 3:
        return t == 0 ? null : Integer.valueOf((int) ((long) s / (long) t));
      case 4:
        return s < t ? 1 : 0;
      default:
        return s == t ? 1 : 0;
    }
  }

  private static Set<Integer> written(Item item) {
    Set<Integer> all = new TreeSet<>();
    if (item.writes() >= 0) {
      all.add(item.writes());
    }
    if (item.kind == 7) {
      all.addAll(Arrays.asList(0, 1, 2, 3, 4, 5));
    }
    return all;
  }

  private static Set<Integer> allWritten(Item item) {
    Set<Integer> all = written(item);
    for (Item one : item.former) {
      all.addAll(allWritten(one));
    }
    for (Item one : item.latter) {
      all.addAll(allWritten(one));
    }
    return all;
  }

  // ---- 1 COMMON, over the flat row

  private void common(Row part) {
    List<int[]> all = flat(part.items);
    String[] names = new String[part.registers];
    int block = 0;
    int stores = 0;
    int inputs = 0;
    for (int k = -1; k < all.size(); k++) {
      if (k >= 0) {
        int[] was = all.get(k);
        int[] one = was.clone();
        for (int i : readsOfFlat(one)) {
          one[i] = Arrays.asList(names).indexOf(names[one[i]]);
        }
        String name = null;
        switch (one[0]) {
          case 0:
            name = "number " + one[2];
            break;
          case 1:
            name = names[one[2]];
            break;
          case 2:
            name = "(" + one[4] + " " + names[one[2]] + " " + names[one[3]] + ")";
            break;
          case 3:
            name = "[" + names[one[2]] + " " + stores + "]";
            break;
          case 4:
            stores++;
            break;
          case 5:
            name = "input " + inputs++;
            break;
          default:
            break;
        }
        if ((one[0] == 2 || one[0] == 3) && Arrays.asList(names).contains(name)) {
          one = new int[] {1, one[1], Arrays.asList(names).indexOf(name)};
        }
        if (name != null) {
          names[one[1]] = name;
        }
        if (!Arrays.equals(was, one)) {
          changes++;
        }
        all.set(k, one);
      }
      if (k < 0 || all.get(k)[0] >= 7) {
        block++;
        stores = 0;
        for (int r = 0; r < names.length; r++) {
          names[r] = "own " + block + " " + r;
        }
      }
    }
    part.items = treeOf(all);
  }

  /** Places in a flat item of the registers that it reads. */
  private static int[] readsOfFlat(int[] one) {
    int kind = one[0] == 11 ? 10 : one[0] == 10 ? 9 : one[0];
    int[] places = new Item(kind).readAt();
    for (int i = 0; i < places.length; i++) {
      places[i]++;
    }
    return places;
  }

  // ---- 2 DEAD: an item stays once a way to a reader that stays was found

  private void dead(Row part, boolean isProcedure) {
    List<int[]> all = flat(part.items);
    int[][] ways = waysOf(all);
    boolean[] stay = new boolean[all.size()];
    for (int k = 0; k < all.size(); k++) {
      int[] one = all.get(k);
      stay[k] = one[0] > 2 || one[0] == 2 && one[4] == 3;
    }
    boolean more = true;
    while (more) {
      more = false;
      for (int k = 0; k < all.size(); k++) {
        if (!stay[k] && isNeeded(all.get(k)[1], k, all, ways, stay, isProcedure)) {
          stay[k] = true;
          more = true;
        }
      }
    }
    List<int[]> left = new ArrayList<>();
    for (int k = 0; k < all.size(); k++) {
      if (stay[k]) {
        left.add(all.get(k));
      }
    }
    changes += all.size() - left.size();
    part.items = treeOf(left);
  }

  private static boolean isNeeded(int r, int k, List<int[]> all, int[][] ways, boolean[] stay,
      boolean isProcedure) {
    Set<Integer> seen = new HashSet<>();
    List<Integer> open = new ArrayList<>();
    for (int next : ways[k]) {
      open.add(next);
    }
    while (!open.isEmpty()) {
      int i = open.remove(open.size() - 1);
      if (!seen.add(i)) {
        continue;
      }
      if (i == all.size()) {
        if (isProcedure && r < 6) {
          return true;
        }
        continue;
      }
      int[] one = all.get(i);
      if (stay[i]) {
        if (one[0] == 7 && r < 6) {
          return true;
        }
        for (int place : readsOfFlat(one)) {
          if (one[place] == r) {
            return true;
          }
        }
      }
      if ((one[0] <= 3 || one[0] == 5) && one[1] == r) {
        continue;
      }
      for (int next : ways[i]) {
        open.add(next);
      }
    }
    return false;
  }

  private static int[][] waysOf(List<int[]> all) {
    int[][] ways = new int[all.size()][];
    List<Integer> open = new ArrayList<>();
    for (int k = 0; k < all.size(); k++) {
      int kind = all.get(k)[0];
      ways[k] = new int[] {k + 1};
      if (kind == 8 || kind == 10) {
        open.add(k);
      } else if (kind == 9 || kind == 11) {
        open.add(k);
      } else if (kind == 12) {
        int middle = open.remove(open.size() - 1);
        int first = open.remove(open.size() - 1);
        if (all.get(middle)[0] == 9) {
          ways[first] = new int[] {first + 1, middle + 1};
          ways[middle] = new int[] {k};
        } else {
          ways[middle] = new int[] {middle + 1, k + 1};
          ways[k] = new int[] {first};
        }
      }
    }
    return ways;
  }

  // ---- 3 HOIST

  private List<Item> hoisted(List<Item> items) {
    List<Item> all = new ArrayList<>();
    for (Item item : items) {
      List<Item> former = item.holds() ? hoisted(item.former) : new ArrayList<>();
      List<Item> latter = item.holds() ? hoisted(item.latter) : new ArrayList<>();
      item.former.clear();
      item.former.addAll(former);
      item.latter.clear();
      item.latter.addAll(latter);
      if (item.kind == 10) {
        for (Item one : former) {
          if (one.kind > 2 || one.kind == 2 && one.n[3] == 3 || one.n[0] < 7) {
            continue;
          }
          item.former.remove(one);
          Set<Integer> byOthers = allWritten(item);
          boolean goes = !byOthers.contains(one.n[0]);
          for (int place : one.readAt()) {
            goes &= !byOthers.contains(one.n[place]) && one.n[place] != one.n[0];
          }
          if (goes) {
            all.add(one);
            changes++;
          } else {
            item.former.add(placeIn(former, one, item.former), one);
          }
        }
      }
      all.add(item);
    }
    return all;
  }

  /** Where one belongs among those left, which are in the order of all. */
  private static int placeIn(List<Item> all, Item one, List<Item> left) {
    int place = 0;
    while (place < left.size() && all.indexOf(left.get(place)) < all.indexOf(one)) {
      place++;
    }
    return place;
  }

  // ---- 4 INLINE

  private List<Item> inlined(List<Item> items, Row part, Row[] rows) {
    List<Item> all = new ArrayList<>();
    for (Item item : items) {
      if (item.holds()) {
        Item one = new Item(item.kind, item.n);
        one.former.addAll(inlined(item.former, part, rows));
        one.latter.addAll(inlined(item.latter, part, rows));
        all.add(one);
      } else if (item.kind == 7 && part.registers + rows[item.n[1]].registers - 6 <= 60) {
        int n = part.registers;
        changes++;
        all.add(new Item(1, n, item.n[0]));
        all.addAll(higher(rows[item.n[1]].items, n - 6));
        part.registers += rows[item.n[1]].registers - 6;
      } else {
        all.add(item);
      }
    }
    return all;
  }

  private static List<Item> higher(List<Item> items, int by) {
    List<Item> all = copyOf(items);
    for (Item item : all) {
      Set<Integer> places = new TreeSet<>();
      for (int place : item.readAt()) {
        places.add(place);
      }
      if (item.writes() >= 0) {
        places.add(0);
      }
      for (int place : places) {
        if (item.n[place] >= 6) {
          item.n[place] += by;
        }
      }
      List<Item> former = higher(item.former, by);
      List<Item> latter = higher(item.latter, by);
      item.former.clear();
      item.former.addAll(former);
      item.latter.clear();
      item.latter.addAll(latter);
    }
    return all;
  }

  // ---- THE WALK

  /** Things are texts; a thing made of others bears their short names, which Walk hands out. */
  static final class Walk {
    // Shared by two walks, so that two made alike are the same in both.
    private static final Map<String, String> SHORT = new HashMap<>();
    private static final Map<String, String> LONG = new HashMap<>();

    private final Row[] rows;
    private final List<String> said = new ArrayList<>();
    private final Map<String, String> became = new HashMap<>();
    private int whiles = 0;
    private int inputs = 0;

    Walk(Row[] rows) {
      this.rows = rows;
      String[] places = new String[61];
      Arrays.fill(places, "0");
      places[60] = thing("array");
      goOver(rows[3].items, rows[3], places, new HashSet<>(), true);
    }

    static String thing(String... of) {
      String whole = String.join(" ", of);
      if (!SHORT.containsKey(whole)) {
        String name = "#" + SHORT.size();
        SHORT.put(whole, name);
        LONG.put(name, whole);
      }
      return SHORT.get(whole);
    }

    private static boolean isNumber(String thing) {
      return thing.charAt(0) != '#';
    }

    /** What was said, and what became of each circling thing in it, and in these, and so on. */
    String tells() {
      StringBuilder all = new StringBuilder(String.join("\n", said));
      List<String> open = new ArrayList<>();
      for (String word : said) {
        open.addAll(Arrays.asList(word.split(" ")));
      }
      Set<String> seen = new TreeSet<>();
      Set<String> circles = new TreeSet<>();
      while (!open.isEmpty()) {
        String one = open.remove(open.size() - 1);
        if (one.startsWith("#") && seen.add(one)) {
          String whole = LONG.get(one);
          open.addAll(Arrays.asList(whole.split(" ")));
          if (whole.startsWith("circling")) {
            circles.add(whole + ": " + became.get(one));
            open.addAll(Arrays.asList(became.get(one).split(" ")));
          }
        }
      }
      return all.append("\n").append(String.join("\n", circles)).toString();
    }

    private void say(boolean aloud, String word) {
      if (aloud) {
        said.add(word);
      }
    }

    private void demand(boolean aloud, Set<String> way, String word) {
      if (way.add(word)) {
        say(aloud, word);
      }
    }

    private void goOver(List<Item> items, Row part, String[] places, Set<String> way,
        boolean aloud) {
      for (Item item : items) {
        int[] n = item.n;
        switch (item.kind) {
          case 0:
            places[n[0]] = String.valueOf(n[1]);
            break;
          case 1:
            places[n[0]] = places[n[1]];
            break;
          case 2:
            places[n[0]] = work(n[3], places[n[1]], places[n[2]], way, aloud);
            break;
          case 3:
            cell(places[n[1]], way, aloud);
            places[n[0]] = thing("load", places[60], places[n[1]]);
            break;
          case 4:
            cell(places[n[0]], way, aloud);
            places[60] = thing("store", places[60], places[n[0]], places[n[1]]);
            break;
          case 5:
            say(aloud, "input");
            places[n[0]] = thing("input", String.valueOf(inputs++));
            break;
          case 6:
            say(aloud, "prints " + places[n[0]]);
            break;
          case 7:
            call(item, places, way, aloud);
            break;
          case 8:
            choose(item, part, places, way, aloud);
            break;
          default:
            circle(item, part, places, way, aloud);
            break;
        }
      }
    }

    private String work(int o, String s, String t, Set<String> way, boolean aloud) {
      if (o == 3 && (!isNumber(t) || t.equals("0"))) {
        demand(aloud, way, "divides " + t);
      }
      if (isNumber(s) && isNumber(t) && !(o == 3 && t.equals("0"))) {
        return String.valueOf(Oracle.work(o, Integer.parseInt(s), Integer.parseInt(t)));
      }
      return thing("work" + o, s, t);
    }

    private void cell(String s, Set<String> way, boolean aloud) {
      if (!isNumber(s) || !(s.length() == 1 && "01234567".contains(s))) {
        demand(aloud, way, "cell " + s);
      }
    }

    private void call(Item item, String[] places, Set<String> way, boolean aloud) {
      String[] own = places.clone();
      Arrays.fill(own, 6, 60, "0");
      own[6] = places[item.n[0]];
      goOver(rows[item.n[1]].items, rows[item.n[1]], own, way, aloud);
      System.arraycopy(own, 0, places, 0, 6);
      places[60] = own[60];
    }

    private void choose(Item item, Row part, String[] places, Set<String> way, boolean aloud) {
      String s = places[item.n[0]];
      if (isNumber(s)) {
        goOver(s.equals("0") ? item.latter : item.former, part, places, way, aloud);
        return;
      }
      String[] one = places.clone();
      String[] other = places.clone();
      say(aloud, "if " + s);
      goOver(item.former, part, one, new HashSet<>(way), aloud);
      say(aloud, "else");
      goOver(item.latter, part, other, new HashSet<>(way), aloud);
      say(aloud, "end");
      for (int i = 0; i < 61; i++) {
        places[i] = one[i].equals(other[i]) ? one[i] : thing("either", s, one[i], other[i]);
      }
    }

    private void circle(Item item, Row part, String[] places, Set<String> way, boolean aloud) {
      int loop = whiles++;
      int whilesThen = whiles;
      int inputsThen = inputs;
      String[] before = places.clone();
      Map<Integer, String> circling = new HashMap<>();
      for (int i = 0; i < 61; i++) {
        if (i < part.registers || i == 60) {
          circling.put(i, thing("circling", String.valueOf(loop), String.valueOf(i)));
        }
      }
      boolean settled = false;
      while (!settled) {
        String[] tried = begun(before, circling);
        goOver(item.former, part, tried, new HashSet<>(), false);
        goOver(item.latter, part, tried, new HashSet<>(), false);
        settled = !circling.entrySet().removeIf(e -> e.getValue().equals(tried[e.getKey()]));
        whiles = whilesThen;
        inputs = inputsThen;
      }
      String[] round = begun(before, circling);
      Set<String> inside = new HashSet<>(way);
      say(aloud, "while");
      goOver(item.former, part, round, inside, aloud);
      say(aloud, "as long " + round[item.n[0]]);
      System.arraycopy(round, 0, places, 0, 61);
      goOver(item.latter, part, round, inside, aloud);
      say(aloud, "end");
      if (aloud) {
        for (Map.Entry<Integer, String> e : circling.entrySet()) {
          became.put(e.getValue(), before[e.getKey()] + " " + round[e.getKey()]);
        }
      }
    }

    private static String[] begun(String[] before, Map<Integer, String> circling) {
      String[] places = before.clone();
      for (Map.Entry<Integer, String> e : circling.entrySet()) {
        places[e.getKey()] = e.getValue();
      }
      return places;
    }
  }

  // ---- CODE, and a run of it

  /** A letter; where it leads is a letter, too, until all have their places. */
  private static final class Letter {
    final int letter;
    int number;
    Letter leads;
    int part = -1;
    boolean isMark = false;

    Letter(int letter, int number) {
      this.letter = letter;
      this.number = number;
    }

    static Letter mark() {
      Letter mark = new Letter(-1, 0);
      mark.isMark = true;
      return mark;
    }

    static Letter leading(int letter, Letter to) {
      Letter one = new Letter(letter, 0);
      one.leads = to;
      return one;
    }
  }

  int[][] code() {
    List<Letter> all = new ArrayList<>();
    Letter[] entries = {Letter.mark(), Letter.mark(), Letter.mark()};
    lettersOf(now[3].items, all, entries);
    all.add(new Letter(17, 0));
    for (int p = 0; p < 3; p++) {
      if (now[p] != null) {
        all.add(entries[p]);
        all.add(new Letter(2, 6));
        lettersOf(now[p].items, all, entries);
        all.add(new Letter(16, 0));
      }
    }
    int place = 0;
    for (Letter one : all) {
      if (one.isMark) {
        one.number = place;
      } else {
        place++;
      }
    }
    int[][] code = new int[place][];
    place = 0;
    for (Letter one : all) {
      if (!one.isMark) {
        code[place++] = new int[] {one.letter, one.leads == null ? one.number : one.leads.number};
      }
    }
    return code;
  }

  private static void lettersOf(List<Item> items, List<Letter> all, Letter[] entries) {
    for (Item item : items) {
      int[] n = item.n;
      switch (item.kind) {
        case 0:
          all.addAll(List.of(new Letter(0, n[1]), new Letter(2, n[0])));
          break;
        case 1:
          all.addAll(List.of(new Letter(1, n[1]), new Letter(2, n[0])));
          break;
        case 2:
          all.addAll(List.of(new Letter(1, n[1]), new Letter(1, n[2]), new Letter(3 + n[3], 0),
              new Letter(2, n[0])));
          break;
        case 3:
          all.addAll(List.of(new Letter(1, n[1]), new Letter(9, 0), new Letter(2, n[0])));
          break;
        case 4:
          all.addAll(List.of(new Letter(1, n[0]), new Letter(1, n[1]), new Letter(10, 0)));
          break;
        case 5:
          all.addAll(List.of(new Letter(11, 0), new Letter(2, n[0])));
          break;
        case 6:
          all.addAll(List.of(new Letter(1, n[0]), new Letter(12, 0)));
          break;
        case 7:
          all.addAll(List.of(new Letter(1, n[0]), Letter.leading(15, entries[n[1]])));
          break;
        case 8:
          Letter behindElse = Letter.mark();
          Letter behindIf = Letter.mark();
          all.addAll(List.of(new Letter(1, n[0]), Letter.leading(13, behindElse)));
          lettersOf(item.former, all, entries);
          all.addAll(List.of(Letter.leading(14, behindIf), behindElse));
          lettersOf(item.latter, all, entries);
          all.add(behindIf);
          break;
        default:
          Letter begin = Letter.mark();
          Letter behind = Letter.mark();
          all.add(begin);
          lettersOf(item.former, all, entries);
          all.addAll(List.of(new Letter(1, n[0]), Letter.leading(13, behind)));
          lettersOf(item.latter, all, entries);
          all.addAll(List.of(Letter.leading(14, begin), behind));
          break;
      }
    }
  }

  final List<Integer> input = new ArrayList<>();
  final List<Integer> printed = new ArrayList<>();
  int steps = 0;

  long run(int fuel) {
    if (fuel < 1 || fuel > 2000) {
      return Check.ARGUMENT;
    }
    int[][] code = code();
    List<Integer> stack = new ArrayList<>();
    List<int[]> frames = new ArrayList<>();
    List<Integer> backs = new ArrayList<>();
    int[] registers = new int[60];
    int[] cells = new int[8];
    int place = 0;
    int read = 0;
    steps = 0;
    printed.clear();
    while (true) {
      if (steps == fuel) {
        return 3;
      }
      int letter = code[place][0];
      int number = code[place][1];
      if (letter == 12 && printed.size() == 40) {
        return 4;
      }
      steps++;
      place++;
      if (letter == 0) {
        stack.add(number);
      } else if (letter == 1) {
        stack.add(registers[number]);
      } else if (letter == 2) {
        registers[number] = off(stack);
      } else if (letter <= 8) {
        int t = off(stack);
        int s = off(stack);
        Integer made = work(letter - 3, s, t);
        if (made == null) {
          return 1;
        }
        stack.add(made);
      } else if (letter == 9 || letter == 10) {
        int v = letter == 10 ? off(stack) : 0;
        int index = off(stack);
        if (index < 0 || index > 7) {
          return 2;
        }
        if (letter == 9) {
          stack.add(cells[index]);
        } else {
          cells[index] = v;
        }
      } else if (letter == 11) {
        stack.add(read < input.size() ? input.get(read) : 0);
        read++;
      } else if (letter == 12) {
        printed.add(off(stack));
      } else if (letter == 13) {
        place = off(stack) == 0 ? number : place;
      } else if (letter == 14) {
        place = number;
      } else if (letter == 15) {
        frames.add(registers.clone());
        backs.add(place);
        Arrays.fill(registers, 6, 60, 0);
        place = number;
      } else if (letter == 16) {
        int[] callers = frames.remove(frames.size() - 1);
        System.arraycopy(callers, 6, registers, 6, 54);
        place = backs.remove(backs.size() - 1);
      } else {
        return 0;
      }
    }
  }

  private static int off(List<Integer> stack) {
    return stack.remove(stack.size() - 1);
  }
}
