import java.util.ArrayList;
import java.util.Collections;
import java.util.List;
import java.util.Random;

/** Long runs of calls, the answers compared with those of Model; the seeds are fixed, so each run is the same. */
public final class ModelTest {
  private static final String[] WORDS = {"bridge", "hand", "from", "to", "through", "over", "minute", "bridges"};
  private static int wrong = 0;

  private final Random random;
  private final KnotTown town = new KnotTown();
  private final Model model = new Model();
  private final StringBuilder told = new StringBuilder();

  private ModelTest(long seed) {
    random = new Random(seed);
    told.append("seed ").append(seed).append(": ");
  }

  public static void main(String[] args) {
    int runs = args.length > 0 ? Integer.parseInt(args[0]) : 150;
    long first = args.length > 1 ? Long.parseLong(args[1]) : 1;
    for (long seed = first; seed < first + runs && wrong == 0; seed++) new ModelTest(seed).run();
    System.out.println(wrong == 0 ? "all answers are those of the model" : wrong + " answers are not those of the model");
    if (wrong != 0) System.exit(1);
  }

  private void run() {
    int calls = 0;
    while (calls < 400 && wrong == 0) {
      int before = calls;
      int kind = random.nextInt(12);
      if (kind == 0) calls += tell(random.nextInt(4) > 0 ? braid() : spoiled(braid()), true);
      else if (kind == 1 && calls < 300) calls += tell(random.nextInt(3) > 0 ? rule() : spoiled(rule()), false);
      else if (kind == 2) calls += moveOrChange();
      else calls += ask();
      if (calls == before) calls++;
    }
  }

  private void due(String call, long got, long want) {
    told.append(call).append(" = ").append(want).append("; ");
    if (got != want) {
      wrong++;
      System.out.println(told);
      System.out.println(call + " answered " + got + ", the model says " + want);
    }
  }

  private int tell(String text, boolean asTown) {
    int calls = 0;
    if (random.nextInt(3) > 0) {
      due("end(0)", town.end(0), model.end(0));
      calls++;
    }
    int before = model.count(9);
    String padded = text + " ".repeat(20);
    for (int at = 0; at < text.length(); at += 20) {
      int[] n = new int[5];
      for (int i = 0; i < 20; i++) n[i / 4] = n[i / 4] << 8 | padded.charAt(at + i) & 255;
      due("feed(..)", town.feed(n[0], n[1], n[2], n[3], n[4]), model.feed(n[0], n[1], n[2], n[3], n[4]));
      calls++;
    }
    int n = before + text.length();
    due("end(" + n + ")", town.end(n), model.end(n));
    if (asTown) due("town() of '" + text + "'", town.town(), model.town());
    else due("rule() of '" + text + "'", town.rule(), model.rule());
    return calls + 2;
  }

  private String blank() { return random.nextInt(12) == 0 ? " ".repeat(random.nextInt(3)) : ""; }

  /** The road or roads of a closed braid, with kinks: it can always be drawn. */
  private String braid() {
    while (true) {
      int strands = 1 + random.nextInt(4);
      int most = random.nextInt(3) == 0 ? 6 : 11;
      int length = strands == 1 ? 0 : random.nextInt(most + 1);
      int[] at = new int[length];
      boolean[] plus = new boolean[length];
      for (int k = 0; k < length; k++) {
        at[k] = random.nextInt(strands - 1);
        plus[k] = random.nextBoolean();
      }
      List<Integer> numbers = new ArrayList<>();
      for (int i = 0; i < 11; i++) numbers.add(i);
      if (random.nextInt(2) == 0) Collections.shuffle(numbers, random);
      List<List<String>> roads = new ArrayList<>();
      boolean[] seen = new boolean[strands];
      for (int s = 0; s < strands; s++) {
        if (seen[s]) continue;
        List<String> road = new ArrayList<>();
        int x = s;
        do {
          seen[x] = true;
          for (int k = 0; k < length; k++) {
            if (at[k] != x && at[k] + 1 != x) continue;
            boolean left = at[k] == x;
            boolean over = left == plus[k];
            road.add((over ? "o" : "u") + blank() + numbers.get(k) + (over ? blank() + (plus[k] ? "+" : "-") : ""));
            x += left ? 1 : -1;
          }
        } while (x != s);
        roads.add(road);
      }
      if (roads.size() > 2) continue;
      for (int k = length; k < most && random.nextInt(3) == 0; k++) kink(roads, numbers.get(k));
      StringBuilder text = new StringBuilder();
      for (List<String> road : roads) {
        if (!road.isEmpty()) Collections.rotate(road, random.nextInt(road.size()));
        text.append(text.length() > 0 ? ";" : "").append(blank()).append("road ");
        for (String pass : road) text.append(pass).append(blank());
      }
      return text.toString();
    }
  }

  private void kink(List<List<String>> roads, int number) {
    List<String> road = roads.get(random.nextInt(roads.size()));
    int at = random.nextInt(road.size() + 1);
    String over = "o" + number + (random.nextBoolean() ? "+" : "-");
    boolean first = random.nextBoolean();
    road.add(at, first ? "u" + number : over);
    road.add(at, first ? over : "u" + number);
  }

  private String spoiled(String text) {
    StringBuilder s = new StringBuilder(text);
    String signs = "road ou0123456789+-;[]<=>*/%barnotandorhandfrom?\u00e9A";
    for (int i = random.nextInt(3); i >= 0; i--) {
      int at = random.nextInt(s.length() + 1);
      char c = signs.charAt(random.nextInt(signs.length()));
      int kind = random.nextInt(5);
      if (kind == 0) s.insert(at, c);
      else if (kind == 1 && at < s.length()) s.setCharAt(at, c);
      else if (kind == 2 && at < s.length()) s.deleteCharAt(at);
      else if (kind == 3 && s.length() > 0) s.setLength(at);
      else s.insert(at, s.substring(random.nextInt(at + 1), at));
    }
    if (s.length() > 400) s.setLength(400);
    return s.toString();
  }

  private String rule() {
    while (true) {
      StringBuilder s = new StringBuilder();
      int clauses = random.nextInt(6) == 0 ? 1 + random.nextInt(14) : 1 + random.nextInt(2);
      for (int i = 0; i < clauses; i++) {
        s.append(i > 0 ? ";" : "").append(blank()).append("bar ");
        test(s, random.nextInt(8) == 0 ? 12 : random.nextInt(4));
      }
      if (s.length() <= 400) return s.toString();
    }
  }

  private void test(StringBuilder s, int deep) {
    fact(s, deep);
    while (random.nextInt(3) == 0) {
      s.append(random.nextBoolean() ? " and " : " or ");
      fact(s, deep > 0 ? random.nextInt(deep) : 0);
    }
  }

  private void fact(StringBuilder s, int deep) {
    if (deep > 0 && random.nextInt(8) > 0) {
      if (random.nextInt(2) == 0) {
        s.append("not ").append(blank());
        fact(s, deep - 1);
      } else {
        s.append("[").append(blank());
        test(s, deep - 1);
        s.append("]").append(blank());
      }
      return;
    }
    sum(s);
    s.append(new String[] {"<", "<=", "=", ">=", ">"}[random.nextInt(5)]).append(blank());
    sum(s);
  }

  private void sum(StringBuilder s) {
    value(s);
    while (random.nextInt(2) == 0) {
      s.append("+-*/%".charAt(random.nextInt(5))).append(blank());
      value(s);
    }
  }

  private void value(StringBuilder s) {
    if (random.nextInt(3) > 0) s.append(WORDS[random.nextInt(8)]);
    else if (random.nextInt(8) == 0) s.append(random.nextInt(200000));
    else s.append(random.nextInt(12));
    s.append(blank());
  }

  private int someBridge() { return random.nextInt(13) - 1; }

  private int somePlace() {
    return random.nextInt(10) == 0 ? random.nextInt(25) - 1 : random.nextInt(Math.max(1, model.count(2)));
  }

  private int moveOrChange() {
    int a = someBridge(), b = someBridge(), c = someBridge(), p = somePlace();
    boolean first = random.nextBoolean(), plus = random.nextBoolean();
    switch (random.nextInt(7)) {
      case 0 -> due("change(" + a + ")", town.change(a), model.change(a));
      case 1 -> due("twist(" + p + ", " + first + ", " + plus + ")", town.twist(p, first, plus), model.twist(p, first, plus));
      case 2 -> {
        int calls = 0;
        for (int i = 0; i < 11; i++) {
          int x = i;
          due("off(" + x + ")", town.off(x) ? 1 : 0, model.off(x) ? 1 : 0);
          calls++;
          if (random.nextInt(3) == 0) return calls;
        }
        return calls;
      }
      case 3 -> {
        int[] two = model.count(1) > 1 ? pair() : new int[] {a, b};
        due("apart(" + two[0] + ", " + two[1] + ")", town.apart(two[0], two[1]) ? 1 : 0, model.apart(two[0], two[1]) ? 1 : 0);
      }
      case 4 -> {
        int[] three = triple(a, b, c);
        due("slide(" + three[0] + ", " + three[1] + ", " + three[2] + ")",
            town.slide(three[0], three[1], three[2]) ? 1 : 0, model.slide(three[0], three[1], three[2]) ? 1 : 0);
      }
      case 5 -> due("mirror()", town.mirror(), model.mirror());
      default -> {
        int road = random.nextInt(4) - 1;
        due("backToFront(" + road + ")", town.backToFront(road), model.backToFront(road));
      }
    }
    return 1;
  }

  /** Bridges of neighbouring places: those that most often can go apart. */
  private int[] pair() {
    int p = random.nextInt(model.count(2));
    return new int[] {model.place(p, 0), model.place(model.place(p, 3), 0)};
  }

  /** The bridges of a slide that the row begins with, if there is one; else some. */
  private int[] triple(int a, int b, int c) {
    for (int i = 0; i < 200 && model.can(3) > 0; i++) {
      int[] three = {random.nextInt(11), random.nextInt(11), random.nextInt(11)};
      if (model.image(3) >= 0 && model.slide(three[0], three[1], three[2])) {
        model.back(3);
        town.image(3);
        return three;
      }
    }
    town.image(3);
    model.image(3);
    return new int[] {a, b, c};
  }

  private int ask() {
    int n = random.nextInt(14) - 2, what = random.nextInt(6) - 1, p = somePlace(), q = somePlace();
    switch (random.nextInt(26)) {
      case 0 -> due("place(" + p + ", " + what + ")", town.place(p, what), model.place(p, what));
      case 1 -> due("bridge(" + n + ", " + what + ")", town.bridge(n, what), model.bridge(n, what));
      case 2, 3 -> due("land(" + what + ")", town.land(what), model.land(what));
      case 4, 5 -> due("can(" + what + ")", town.can(what), model.can(what));
      case 6 -> due("writhe()", town.writhe(), model.writhe());
      case 7 -> due("linked()", town.linked(), model.linked());
      case 8, 9 -> {
        int prime = new int[] {3, 5, 7, 11, 13, n}[random.nextInt(6)];
        due("colours(" + prime + ")", town.colours(prime), model.colours(prime));
      }
      case 10, 11 -> due("determinant()", town.determinant(), model.determinant());
      case 12 -> {
        int power = random.nextInt(50) - 25;
        if (random.nextInt(10) == 0) power = random.nextInt(210) - 105;
        due("polynomial(" + n % 3 + ", " + power + ")", town.polynomial(n % 3, power), model.polynomial(n % 3, power));
      }
      case 13 -> {
        for (int power = -60; power <= 60; power++) {
          int g = town.polynomial(power & 1, power), w = model.polynomial(power & 1, power);
          if (g != w) due("polynomial(" + (power & 1) + ", " + power + ")", g, w);
        }
      }
      case 14 -> due("shaken()", town.shaken(), model.shaken());
      case 15 -> due("row(" + n + ", " + what + ")", town.row(n, what), model.row(n, what));
      case 16 -> {
        for (int k = 0; k < 14; k++) due("row(" + k / 4 + ", " + k % 4 + ")", town.row(k / 4, k % 4), model.row(k / 4, k % 4));
        return 14;
      }
      case 17 -> due("changes(" + what + ")", town.changes(what), model.changes(what));
      case 18 -> {
        int m = random.nextInt(6) == 0 ? random.nextInt(70) - 4 : random.nextInt(8);
        due("gossip(" + p + ", " + m + ")", town.gossip(p, m), model.gossip(p, m));
      }
      case 19 -> due("heard(" + p + ", " + q + ")", town.heard(p, q), model.heard(p, q));
      case 20 -> {
        int x = random.nextInt();
        due("seed(" + x + ")", town.seed(x), model.seed(x));
      }
      case 21 -> {
        int m = random.nextInt(24) - 1, percent = random.nextInt(105) - 2;
        due("floods(" + m + ", " + percent + ", " + p + ", " + q + ")", town.floods(m, percent, p, q), model.floods(m, percent, p, q));
      }
      case 22, 23 -> due("count(" + n + ")", town.count(n), model.count(n));
      case 24 -> {
        int k = random.nextInt(6) - 1;
        if (random.nextBoolean()) due("image(" + k + ")", town.image(k), model.image(k));
        else due("back(" + k + ")", town.back(k), model.back(k));
      }
      default -> {
        int rule = random.nextInt(7) - 1;
        due("force(" + rule + ")", town.force(rule), model.force(rule));
      }
    }
    return 1;
  }
}
