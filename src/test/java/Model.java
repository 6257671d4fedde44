import java.util.ArrayList;
import java.util.Arrays;
import java.util.Collections;
import java.util.LinkedHashMap;
import java.util.List;
import java.util.Map;
import java.util.TreeMap;
import java.util.TreeSet;

/** A second reading of the document, slow and plain, for the tests to compare with. */
final class Model {
  static final int NONE = -1;

  record Pass(int bridge, boolean over) {}

  record Move(int kind, List<Integer> bridges) {}

  record Word(char kind, String text, int place) {}

  interface Value { long of(Map<String, Long> words); }

  interface Test { boolean holds(Map<String, Long> words); }

  static final class Fault extends Exception {
    final int number;
    Fault(int place, int kind) { super("fault"); number = 1 + 8 * place + kind; }
  }

  /** Roads of passes and the hands of the bridges. */
  static final class Town {
    final List<List<Pass>> roads = new ArrayList<>();
    final TreeMap<Integer, Boolean> hands = new TreeMap<>();

    Town copy() {
      Town t = new Town();
      for (List<Pass> road : roads) t.roads.add(new ArrayList<>(road));
      t.hands.putAll(hands);
      return t;
    }

    private List<Pass> all;
    private List<List<String>> lands;

    /** What was kept of the town as it was is dropped: to be called when it has changed. */
    void touch() {
      all = null;
      lands = null;
    }

    List<Pass> all() {
      if (all == null) {
        all = new ArrayList<>();
        for (List<Pass> road : roads) all.addAll(road);
      }
      return all;
    }

    int roadOf(int place) {
      return place < roads.get(0).size() ? 0 : 1;
    }

    int next(int place) {
      int road = roadOf(place), start = road == 0 ? 0 : roads.get(0).size();
      return start + (place - start + 1) % roads.get(road).size();
    }

    int before(int place) {
      for (int q = 0; q < all().size(); q++) if (next(q) == place) return q;
      throw new IllegalStateException();
    }

    int placeOf(int bridge, boolean over) { return all().indexOf(new Pass(bridge, over)); }

    /** Ends as "piece.b" and "piece.e". */
    Map<String, String> againstTheClock() {
      Map<String, String> next = new LinkedHashMap<>();
      for (int b : hands.keySet()) {
        int o = placeOf(b, true), u = placeOf(b, false);
        String oa = o + ".b", ua = u + ".b", oc = before(o) + ".e", uc = before(u) + ".e";
        List<String> order = hands.get(b) ? List.of(oa, ua, oc, uc) : List.of(oa, uc, oc, ua);
        for (int i = 0; i < 4; i++) next.put(order.get(i), order.get((i + 1) % 4));
      }
      return next;
    }

    static String otherEnd(String end) {
      return end.endsWith("b") ? end.replace("b", "e") : end.replace("e", "b");
    }

    /** Pieces of land, each as its ends, that with the least end first. */
    List<List<String>> lands() {
      if (lands != null) return lands;
      Map<String, String> turn = againstTheClock();
      lands = new ArrayList<>();
      TreeSet<String> seen = new TreeSet<>();
      for (int p = 0; p < all().size(); p++) {
        for (String kind : List.of(".b", ".e")) {
          String from = p + kind;
          if (seen.contains(from)) continue;
          List<String> round = new ArrayList<>();
          String e = from;
          do { round.add(e); seen.add(e); e = turn.get(otherEnd(e)); } while (!e.equals(from));
          lands.add(round);
        }
      }
      return lands;
    }

    int groups() {
      Map<Integer, Integer> group = new TreeMap<>();
      for (int b : hands.keySet()) group.put(b, b);
      List<Pass> all = all();
      for (int round = 0; round < 12; round++) {
        for (int p = 0; p < all.size(); p++) {
          int a = all.get(p).bridge, b = all.get(next(p)).bridge;
          int least = Math.min(group.get(a), group.get(b));
          group.put(a, least);
          group.put(b, least);
        }
      }
      return new TreeSet<>(group.values()).size();
    }

    static int piece(String end) { return Integer.parseInt(end.substring(0, end.length() - 2)); }

    TreeSet<Integer> bridgesOfPiece(int p) {
      TreeSet<Integer> set = new TreeSet<>();
      set.add(all().get(p).bridge);
      set.add(all().get(next(p)).bridge);
      return set;
    }

    boolean overBoth(int p) { return all().get(p).over && all().get(next(p)).over; }

    boolean underBoth(int p) { return !all().get(p).over && !all().get(next(p)).over; }

    boolean canOff(int b) {
      if (!hands.containsKey(b)) return false;
      List<Pass> all = all();
      for (int p = 0; p < all.size(); p++) {
        Pass from = all.get(p), to = all.get(next(p));
        if (from.bridge == b && to.bridge == b && from.over != to.over) return true;
      }
      return false;
    }

    boolean canApart(int a, int b) {
      if (a == b) return false;
      TreeSet<Integer> two = new TreeSet<>(List.of(a, b));
      for (List<String> land : lands()) {
        if (land.size() != 2) continue;
        int p = piece(land.get(0)), q = piece(land.get(1));
        if (p == q || !bridgesOfPiece(p).equals(two) || !bridgesOfPiece(q).equals(two)) continue;
        if (overBoth(p) && underBoth(q) || overBoth(q) && underBoth(p)) return true;
      }
      return false;
    }

    /** The pieces along which a slide is done; null if it can't be. */
    List<Integer> slidePieces(int a, int b, int c) {
      if (a == b || b == c || a == c) return null;
      List<TreeSet<Integer>> pairs = List.of(new TreeSet<>(List.of(a, b)), new TreeSet<>(List.of(a, c)), new TreeSet<>(List.of(b, c)));
      for (List<String> land : lands()) {
        if (land.size() != 3) continue;
        List<Integer> pieces = new ArrayList<>();
        List<TreeSet<Integer>> between = new ArrayList<>();
        int overs = 0, unders = 0, mixed = 0;
        for (String end : land) {
          int p = piece(end);
          pieces.add(p);
          between.add(bridgesOfPiece(p));
          if (overBoth(p)) overs++; else if (underBoth(p)) unders++; else mixed++;
        }
        if (new TreeSet<>(pieces).size() == 3 && between.containsAll(pairs) && overs == 1 && unders == 1 && mixed == 1) return pieces;
      }
      return null;
    }

    List<Move> moves() {
      List<Move> moves = new ArrayList<>();
      List<Integer> bs = new ArrayList<>(hands.keySet());
      for (int a : bs) if (canOff(a)) moves.add(new Move(1, List.of(a)));
      for (int a : bs) for (int b : bs) if (a < b && canApart(a, b)) moves.add(new Move(2, List.of(a, b)));
      boolean triangles = false;
      for (List<String> land : lands()) triangles |= land.size() == 3;
      if (!triangles) return moves;
      for (int a : bs) for (int b : bs) for (int c : bs)
        if (a < b && b < c && slidePieces(a, b, c) != null) moves.add(new Move(3, List.of(a, b, c)));
      return moves;
    }

    Town behind(Move m) {
      Town t = copy();
      if (m.kind < 3) {
        for (List<Pass> road : t.roads) road.removeIf(x -> m.bridges.contains(x.bridge));
        for (int b : m.bridges) t.hands.remove(b);
        t.touch();
        return t;
      }
      List<Integer> pieces = slidePieces(m.bridges.get(0), m.bridges.get(1), m.bridges.get(2));
      List<Pass> swapped = new ArrayList<>(all());
      for (int p : pieces) Collections.swap(swapped, p, next(p));
      t.setAll(swapped);
      return t;
    }

    private void setAll(List<Pass> passes) {
      int at = 0;
      for (List<Pass> road : roads) for (int i = 0; i < road.size(); i++) road.set(i, passes.get(at++));
      touch();
    }

    void change(int b) {
      for (List<Pass> road : roads) road.replaceAll(x -> x.bridge == b ? new Pass(b, !x.over) : x);
      hands.put(b, !hands.get(b));
      touch();
    }

    TreeSet<Integer> ofBoth() {
      TreeSet<Integer> set = new TreeSet<>();
      if (roads.size() < 2) return set;
      for (int b : hands.keySet()) if (roadOf(placeOf(b, true)) != roadOf(placeOf(b, false))) set.add(b);
      return set;
    }

    /** The place at which the bow of a piece begins; of a road never under its first place. */
    int bowStart(int piece) {
      int p = piece;
      for (int i = 0; i < 30; i++) {
        if (!all().get(p).over) return p;
        p = before(p);
      }
      return roadOf(piece) == 0 ? 0 : roads.get(0).size();
    }

    List<Integer> bowStarts() {
      TreeSet<Integer> starts = new TreeSet<>();
      for (int p = 0; p < all().size(); p++) starts.add(bowStart(p));
      List<Integer> list = new ArrayList<>(starts);
      for (List<Pass> road : roads) if (road.isEmpty()) list.add(1000 + list.size());
      return list;
    }

    int[][] table() {
      List<Integer> bows = bowStarts();
      int[][] t = new int[hands.size()][bows.size()];
      int r = 0;
      for (int b : hands.keySet()) {
        int o = placeOf(b, true), u = placeOf(b, false);
        t[r][bows.indexOf(bowStart(o))] += 2;
        t[r][bows.indexOf(bowStart(u))] -= 1;
        t[r][bows.indexOf(bowStart(before(u)))] -= 1;
        r++;
      }
      return t;
    }

    int writhe() {
      int w = 0;
      for (boolean plus : hands.values()) w += plus ? 1 : -1;
      return w;
    }

    String key() { return roads.toString(); }
  }

  private String tape = "";
  private Town town;
  private int moves, force = NONE, x;
  private final List<List<Test>> rules = new ArrayList<>();
  private final Town[] imageTown = new Town[4];
  private final int[][] imageRest = new int[4][];

  // ---- the texts ----

  private static List<Word> words(String text) {
    List<Word> words = new ArrayList<>();
    int i = 0;
    while (i < text.length()) {
      char c = text.charAt(i);
      int j = i + 1;
      if (c == ' ') { i++; continue; }
      char kind = 's';
      if (c >= 'a' && c <= 'z') {
        kind = 'w';
        while (j < text.length() && text.charAt(j) >= 'a' && text.charAt(j) <= 'z') j++;
      } else if (c >= '0' && c <= '9') {
        kind = 'n';
        while (j < text.length() && text.charAt(j) >= '0' && text.charAt(j) <= '9') j++;
      } else if ((c == '<' || c == '>') && j < text.length() && text.charAt(j) == '=') {
        j++;
      }
      words.add(new Word(kind, text.substring(i, j), i));
      i = j;
    }
    words.add(new Word('.', "", text.length()));
    return words;
  }

  private static Town townOf(String text) throws Fault {
    List<Word> words = words(text);
    Town t = new Town();
    TreeSet<String> told = new TreeSet<>();
    int i = 0;
    while (true) {
      Word w = words.get(i++);
      if (!w.text.equals("road")) throw new Fault(w.place, 0);
      if (t.roads.size() == 2) throw new Fault(w.place, 4);
      t.roads.add(new ArrayList<>());
      w = words.get(i++);
      while (w.text.equals("o") || w.text.equals("u")) {
        boolean over = w.text.equals("o");
        w = words.get(i++);
        if (w.kind != 'n') throw new Fault(w.place, 0);
        if (w.text.length() > 5 || Integer.parseInt(w.text) > 10) throw new Fault(w.place, 1);
        int b = Integer.parseInt(w.text);
        if (!told.add(b + "/" + over)) throw new Fault(w.place, 5);
        t.roads.get(t.roads.size() - 1).add(new Pass(b, over));
        if (over) {
          w = words.get(i++);
          if (!w.text.equals("+") && !w.text.equals("-")) throw new Fault(w.place, 0);
          t.hands.put(b, w.text.equals("+"));
        }
        w = words.get(i++);
      }
      if (w.kind == '.') break;
      if (!w.text.equals(";")) throw new Fault(w.place, 0);
    }
    for (int b = 0; b <= 10; b++) if (told.contains(b + "/true") != told.contains(b + "/false")) throw new Fault(text.length(), 6);
    if (t.lands().size() != t.hands.size() + 2 * t.groups()) throw new Fault(text.length(), 7);
    return t;
  }

  /** A reader of rules by descent, with the words in a list. */
  private static final class RuleReader {
    final List<Word> words;
    int i, counted;

    RuleReader(List<Word> words) { this.words = words; }

    Word now() { return words.get(i); }

    boolean take(String text) {
      if (!now().text.equals(text) || now().kind == '.') return false;
      i++;
      return true;
    }

    List<Test> rule() throws Fault {
      List<Test> tests = new ArrayList<>();
      do {
        if (!now().text.equals("bar")) throw new Fault(now().place, 0);
        if (tests.size() == 12) throw new Fault(now().place, 4);
        i++;
        tests.add(test(0));
      } while (take(";"));
      if (now().kind != '.') throw new Fault(now().place, 0);
      return tests;
    }

    Test test(int deep) throws Fault {
      Test left = part(deep);
      while (take("or")) {
        Test l = left, r = part(deep);
        left = w -> l.holds(w) || r.holds(w);
      }
      return left;
    }

    Test part(int deep) throws Fault {
      Test left = fact(deep);
      while (take("and")) {
        Test l = left, r = fact(deep);
        left = w -> l.holds(w) && r.holds(w);
      }
      return left;
    }

    Test fact(int deep) throws Fault {
      if (now().text.equals("not") || now().text.equals("[")) {
        if (deep == 10) throw new Fault(now().place, 2);
        if (take("not")) {
          Test t = fact(deep + 1);
          return w -> !t.holds(w);
        }
        i++;
        Test t = test(deep + 1);
        if (!take("]")) throw new Fault(now().place, 0);
        return t;
      }
      Value l = sum();
      String sign = now().text;
      if (!List.of("<", "<=", "=", ">=", ">").contains(sign)) throw new Fault(now().place, 0);
      countOne();
      i++;
      Value r = sum();
      return w -> {
        int c = Long.compare(l.of(w), r.of(w));
        return switch (sign) { case "<" -> c < 0; case "<=" -> c <= 0; case "=" -> c == 0; case ">=" -> c >= 0; default -> c > 0; };
      };
    }

    void countOne() throws Fault {
      if (++counted > 60) throw new Fault(now().place, 3);
    }

    Value sum() throws Fault {
      Value left = term();
      while (now().text.equals("+") || now().text.equals("-")) {
        boolean plus = now().text.equals("+");
        i++;
        Value l = left, r = term();
        left = w -> plus ? l.of(w) + r.of(w) : l.of(w) - r.of(w);
      }
      return left;
    }

    Value term() throws Fault {
      Value left = value();
      while (List.of("*", "/", "%").contains(now().text)) {
        String sign = now().text;
        i++;
        Value l = left, r = value();
        left = w -> {
          long a = l.of(w), b = r.of(w);
          if (sign.equals("*")) return a * b;
          if (b == 0) return 0;
          return sign.equals("/") ? a / b : a % b;
        };
      }
      return left;
    }

    Value value() throws Fault {
      Word w = now();
      if (w.kind == 'n') {
        if (w.text.length() > 5) throw new Fault(w.place, 1);
        countOne();
        i++;
        long n = Long.parseLong(w.text);
        return x -> n;
      }
      if (!List.of("bridge", "hand", "from", "to", "through", "over", "minute", "bridges").contains(w.text)) throw new Fault(w.place, 0);
      countOne();
      i++;
      return x -> x.get(w.text);
    }
  }

  // ---- the face ----

  int feed(int a, int b, int c, int d, int e) {
    if (tape.length() > 380) return NONE;
    StringBuilder s = new StringBuilder(tape);
    for (int n : new int[] {a, b, c, d, e}) for (int k = 3; k >= 0; k--) s.append((char) (n >>> 8 * k & 255));
    tape = s.toString();
    return tape.length();
  }

  int end(int n) {
    if (n < 0 || n > tape.length()) return NONE;
    tape = tape.substring(0, n);
    return n;
  }

  int town() {
    String text = tape;
    tape = "";
    try {
      town = townOf(text);
    } catch (Fault f) {
      return -2 - f.number;
    }
    moves = 0;
    return town.hands.size();
  }

  int rule() {
    if (rules.size() == 6) return NONE;
    String text = tape;
    tape = "";
    try {
      rules.add(new RuleReader(words(text)).rule());
    } catch (Fault f) {
      return -2 - f.number;
    }
    return rules.size() - 1;
  }

  int force(int rule) {
    if (rule < -1 || rule >= rules.size()) return -2;
    int was = force;
    force = rule;
    return was;
  }

  private boolean noPlace(int place) { return town == null || place < 0 || place >= town.all().size(); }

  private boolean noBridge(int bridge) { return town == null || !town.hands.containsKey(bridge); }

  int place(int place, int what) {
    if (noPlace(place)) return NONE;
    Pass p = town.all().get(place);
    return switch (what) {
      case 0 -> p.bridge;
      case 1 -> p.over ? 1 : 0;
      case 2 -> town.roadOf(place);
      case 3 -> town.next(place);
      case 4 -> town.bowStarts().indexOf(town.bowStart(place));
      default -> NONE;
    };
  }

  int bridge(int bridge, int what) {
    if (noBridge(bridge)) return NONE;
    return switch (what) {
      case 0 -> town.hands.get(bridge) ? 1 : 0;
      case 1 -> town.placeOf(bridge, true);
      case 2 -> town.placeOf(bridge, false);
      default -> NONE;
    };
  }

  int land(int what) {
    if (town == null || what < 0 || what > 3) return NONE;
    int most = 0, twos = 0, threes = 0;
    for (List<String> land : town.lands()) {
      most = Math.max(most, land.size());
      if (land.size() == 2) twos++;
      if (land.size() == 3) threes++;
    }
    return new int[] {town.lands().size(), most, twos, threes}[what];
  }

  private boolean does(Move m) {
    if (town == null || !town.moves().contains(m)) return false;
    town = town.behind(m);
    moves++;
    return true;
  }

  private static Move move(Integer... bridges) {
    List<Integer> list = new ArrayList<>(Arrays.asList(bridges));
    Collections.sort(list);
    return new Move(bridges.length, list);
  }

  boolean off(int a) { return does(move(a)); }

  boolean apart(int a, int b) { return does(move(a, b)); }

  boolean slide(int a, int b, int c) { return does(move(a, b, c)); }

  int change(int bridge) {
    if (noBridge(bridge)) return NONE;
    town = town.copy();
    town.change(bridge);
    return town.hands.get(bridge) ? 1 : 0;
  }

  int twist(int place, boolean overFirst, boolean plus) {
    if (noPlace(place) || town.hands.size() == 11) return NONE;
    int b = 0;
    while (town.hands.containsKey(b)) b++;
    town = town.copy();
    int road = town.roadOf(place);
    List<Pass> list = town.roads.get(road);
    int at = place - (road == 0 ? 0 : town.roads.get(0).size()) + 1;
    list.add(at, new Pass(b, !overFirst));
    list.add(at, new Pass(b, overFirst));
    town.hands.put(b, plus);
    town.touch();
    return b;
  }

  int mirror() {
    if (town == null) return NONE;
    town = town.copy();
    for (int b : new ArrayList<>(town.hands.keySet())) town.change(b);
    return town.hands.size();
  }

  int backToFront(int road) {
    if (town == null || road < 0 || road >= town.roads.size()) return NONE;
    town = town.copy();
    Collections.reverse(town.roads.get(road));
    town.touch();
    for (int b : town.ofBoth()) town.hands.put(b, !town.hands.get(b));
    town.touch();
    return town.roads.get(road).size();
  }

  int can(int kind) {
    if (town == null || kind < 1 || kind > 3) return NONE;
    return (int) town.moves().stream().filter(m -> m.kind == kind).count();
  }

  int writhe() { return town == null ? -1000 : town.writhe(); }

  int linked() {
    if (town == null || town.roads.size() < 2) return -1000;
    int sum = 0;
    for (int b : town.ofBoth()) sum += town.hands.get(b) ? 1 : -1;
    if (sum % 2 != 0) throw new IllegalStateException("odd linking");
    return sum / 2;
  }

  long colours(int p) {
    if (town == null || !List.of(3, 5, 7, 11, 13).contains(p)) return NONE;
    int[][] t = town.table();
    int cols = town.bowStarts().size();
    if (Math.pow(p, cols) <= 20000) return tried(t, new int[cols], 0, p);
    int rank = 0;
    for (int c = cols - 1; c >= 0; c--) {
      int pivot = -1;
      for (int r = rank; r < t.length; r++) if (Math.floorMod(t[r][c], p) != 0) pivot = r;
      if (pivot < 0) continue;
      int[] row = t[pivot];
      t[pivot] = t[rank];
      t[rank++] = row;
      int inverse = 1;
      while (Math.floorMod(inverse * row[c], p) != 1) inverse++;
      for (int r = 0; r < t.length; r++) {
        if (t[r] == row) continue;
        int f = Math.floorMod(t[r][c] * inverse, p);
        for (int k = 0; k < cols; k++) t[r][k] = Math.floorMod(t[r][k] - f * row[k], p);
      }
    }
    long ways = 1;
    for (int i = rank; i < cols; i++) ways *= p;
    return ways;
  }

  private static long tried(int[][] t, int[] colour, int k, int p) {
    if (k == colour.length) {
      for (int[] row : t) {
        int sum = 0;
        for (int c = 0; c < row.length; c++) sum += row[c] * colour[c];
        if (sum % p != 0) return 0;
      }
      return 1;
    }
    long ways = 0;
    for (colour[k] = 0; colour[k] < p; colour[k]++) ways += tried(t, colour, k + 1, p);
    return ways;
  }

  long determinant() {
    if (town == null) return NONE;
    int[][] t = town.table();
    int rows = t.length, cols = town.bowStarts().size();
    if (cols >= rows + 2) return 0;
    int left = cols == rows ? rows - 1 : rows;
    return Math.abs(expanded(t, 0, left, 0));
  }

  private static long expanded(int[][] t, int row, int n, int used) {
    if (row == n) return 1;
    long sum = 0;
    int sign = 1;
    for (int c = 0; c < n; c++) {
      if ((used >> c & 1) == 1) continue;
      if (t[row][c] != 0) sum += sign * t[row][c] * expanded(t, row + 1, n, used | 1 << c);
      sign = -sign;
    }
    return sum;
  }

  private static TreeMap<Integer, Integer> times(Map<Integer, Integer> a, Map<Integer, Integer> b) {
    TreeMap<Integer, Integer> c = new TreeMap<>();
    a.forEach((i, m) -> b.forEach((j, n) -> c.merge(i + j, m * n, Integer::sum)));
    return c;
  }

  private Town bracketOf;
  private TreeMap<Integer, Integer> bracket;

  private TreeMap<Integer, Integer> bracket() {
    if (bracketOf == town) return bracket;
    TreeMap<Integer, Integer> sum = new TreeMap<>();
    List<TreeMap<Integer, Integer>> powers = new ArrayList<>();
    powers.add(new TreeMap<>(Map.of(0, 1)));
    for (int i = 0; i < 20; i++) powers.add(times(powers.get(i), Map.of(2, -1, -2, -1)));
    List<Integer> bs = new ArrayList<>(town.hands.keySet());
    int n = bs.size(), pieces = town.all().size();
    int empty = 0;
    for (List<Pass> road : town.roads) if (road.isEmpty()) empty++;
    int[][] ends = new int[n][];
    for (int i = 0; i < n; i++) {
      int o = town.placeOf(bs.get(i), true), u = town.placeOf(bs.get(i), false);
      ends[i] = new int[] {town.before(o), o, town.before(u), u};
    }
    for (int choice = 0; choice < 1 << n; choice++) {
      int[] ring = new int[pieces];
      for (int p = 0; p < pieces; p++) ring[p] = p;
      for (int i = 0; i < n; i++) {
        boolean along = (choice >> i & 1) == 1 == town.hands.get(bs.get(i));
        int[] e = ends[i];
        merge(ring, e[0], along ? e[3] : e[2]);
        merge(ring, along ? e[2] : e[1], along ? e[1] : e[3]);
      }
      int rings = empty + (int) Arrays.stream(ring).distinct().count();
      int power = 2 * Integer.bitCount(choice) - n;
      powers.get(rings - 1).forEach((k, m) -> sum.merge(k + power, m, Integer::sum));
    }
    bracketOf = town;
    bracket = sum;
    return sum;
  }

  private static void merge(int[] ring, int a, int b) {
    int from = ring[a], to = ring[b];
    for (int i = 0; i < ring.length; i++) if (ring[i] == from) ring[i] = to;
  }

  int polynomial(int what, int power) {
    if (town == null || what < 0 || what > 1 || power < -99 || power > 99) return 0;
    TreeMap<Integer, Integer> p = bracket();
    int w = town.writhe();
    if (what == 1) p = times(p, Map.of(-3 * w, w % 2 == 0 ? 1 : -1));
    return p.getOrDefault(power, 0);
  }

  private static final List<Move> UNKNOWN = new ArrayList<>();
  private Town rowOf;
  private List<Move> row;

  private List<Move> row() {
    if (rowOf != town) {
      row = rowOf(town);
      rowOf = town;
    }
    return row;
  }

  /** The row of moves; null if it can't be. */
  private static List<Move> rowOf(Town start) {
    if (start.hands.isEmpty()) return List.of();
    List<Town> queue = new ArrayList<>(List.of(start));
    Map<String, List<Move>> seen = new LinkedHashMap<>();
    seen.put(start.key(), List.of());
    for (int k = 0; k < queue.size(); k++) {
      Town t = queue.get(k);
      for (Move m : t.moves()) {
        Town b = t.behind(m);
        if (seen.containsKey(b.key())) continue;
        List<Move> path = new ArrayList<>(seen.get(t.key()));
        path.add(m);
        if (b.hands.isEmpty()) return path;
        if (seen.size() == 300) return UNKNOWN;
        seen.put(b.key(), path);
        queue.add(b);
      }
    }
    return null;
  }

  int shaken() {
    if (town == null) return NONE;
    List<Move> row = row();
    return row == null ? -2 : row == UNKNOWN ? -3 : row.size();
  }

  int row(int k, int what) {
    if (town == null || k < 0 || what < 0 || what > 3) return NONE;
    List<Move> row = row();
    if (row == UNKNOWN) return -3;
    if (row == null || k >= row.size()) return -2;
    Move m = row.get(k);
    if (what == 0) return m.kind;
    return what > m.bridges.size() ? NONE : m.bridges.get(what - 1);
  }

  private Town changesOf;
  private int changes;

  int changes(int what) {
    if (town == null || what < 0 || what > 1 || town.hands.size() > 6) return NONE;
    if (changesOf != town) {
      changes = leastSet();
      changesOf = town;
    }
    if (changes < 0) return -2;
    return what == 0 ? Integer.bitCount(changes) : changes;
  }

  private int leastSet() {
    int best = -1;
    for (int set = 0; set < 2048; set++) {
      boolean all = true;
      for (int b = 0; b < 11; b++) all &= (set >> b & 1) == 0 || town.hands.containsKey(b);
      if (!all || best >= 0 && Integer.bitCount(set) >= Integer.bitCount(best)) continue;
      Town t = town.copy();
      for (int b = 0; b < 11; b++) if ((set >> b & 1) == 1) t.change(b);
      List<Move> row = rowOf(t);
      if (row != null && row != UNKNOWN) best = set;
    }
    return best;
  }

  private TreeSet<Integer> minute(TreeSet<Integer> have, int minute) {
    TreeSet<Integer> then = new TreeSet<>(have);
    for (int p : have) {
      int n = town.next(p);
      passing(then, p, n, List.of(n), minute);
      passing(then, p, p, List.of(town.before(p)), minute);
    }
    return then;
  }

  private void passing(TreeSet<Integer> then, int from, int place, List<Integer> along, int minute) {
    Pass pass = town.all().get(place);
    int other = town.placeOf(pass.bridge, !pass.over);
    for (int to : along) if (passes(pass, from, to, 0, minute)) then.add(to);
    for (int to : List.of(other, town.before(other))) if (passes(pass, from, to, 1, minute)) then.add(to);
  }

  private boolean passes(Pass pass, int from, int to, int through, int minute) {
    if (force < 0) return true;
    Map<String, Long> w = new TreeMap<>();
    w.put("bridge", (long) pass.bridge);
    w.put("hand", town.hands.get(pass.bridge) ? 1L : 0L);
    w.put("from", (long) from);
    w.put("to", (long) to);
    w.put("through", (long) through);
    w.put("over", pass.over ? 1L : 0L);
    w.put("minute", (long) minute);
    w.put("bridges", (long) town.hands.size());
    for (Test t : rules.get(force)) if (t.holds(w)) return false;
    return true;
  }

  int gossip(int piece, int n) {
    if (noPlace(piece) || n < 0 || n > 60) return NONE;
    TreeSet<Integer> have = new TreeSet<>(List.of(piece));
    for (int m = 1; m <= n; m++) have = minute(have, m);
    int bits = 0;
    for (int p : have) bits |= 1 << p;
    return bits;
  }

  int heard(int piece, int other) {
    if (noPlace(piece) || noPlace(other)) return NONE;
    TreeSet<Integer> have = new TreeSet<>(List.of(piece));
    for (int m = 0; m <= 60; m++) {
      if (have.contains(other)) return m;
      have = minute(have, m + 1);
    }
    return -2;
  }

  int seed(int n) {
    if (n < 0) return NONE;
    int was = x;
    x = n;
    return was;
  }

  int floods(int m, int p, int from, int to) {
    if (m < 1 || m > 20 || p < 0 || p > 100 || noPlace(from) || noPlace(to)) return NONE;
    if (town.roadOf(from) != town.roadOf(to)) return NONE;
    long y = x;
    int often = 0;
    for (int i = 0; i < m; i++) {
      TreeSet<Integer> flooded = new TreeSet<>();
      for (int b : town.hands.keySet()) {
        y = (y * 1103515245L + 12345L) % 2147483648L;
        if (y / 65536 % 100 < p) flooded.add(b);
      }
      TreeSet<Integer> reached = new TreeSet<>(List.of(from));
      for (int k = 0; k < 30; k++) {
        for (int q : new ArrayList<>(reached)) {
          Pass ahead = town.all().get(town.next(q)), behind = town.all().get(q);
          if (ahead.over || !flooded.contains(ahead.bridge)) reached.add(town.next(q));
          if (behind.over || !flooded.contains(behind.bridge)) reached.add(town.before(q));
        }
      }
      if (reached.contains(to)) often++;
    }
    return often;
  }

  int count(int what) {
    Town t = town == null ? new Town() : town;
    return switch (what) {
      case 0 -> t.roads.size();
      case 1 -> t.hands.size();
      case 2 -> t.all().size();
      case 3 -> (int) t.hands.values().stream().filter(h -> h).count();
      case 4 -> moves;
      case 5 -> t.bowStarts().size();
      case 6 -> rules.size();
      case 7 -> force;
      case 8 -> x;
      case 9 -> tape.length();
      case 10 -> t.groups();
      default -> NONE;
    };
  }

  int image(int k) {
    if (k < 0 || k > 3) return NONE;
    imageTown[k] = town;
    imageRest[k] = new int[] {moves, force, x};
    return moves;
  }

  int back(int k) {
    if (k < 0 || k > 3 || imageRest[k] == null) return NONE;
    town = imageTown[k];
    moves = imageRest[k][0];
    force = imageRest[k][1];
    x = imageRest[k][2];
    return moves;
  }
}
