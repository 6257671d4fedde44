/** Promises 18 to 25, with MARKS, BRACKET, SHAKEN OUT and CHANGES: each sentence that names a boundary case. */
public final class MarkBoundsTest extends Answers {
  // 1,188 situations would come of this one.
  private static final String TANGLED = "road u5u0u1o3-o0-u2u3u4o4-o1-o2-o5-";
  // The knots 8_18, 10_123, 8_19 and 10_124, whose marks are known.
  private static final String EIGHT_18 = "road o0+u1o3-u4o6+u7o1-u2o4+u5o7-u0o2+u3o5-u6";
  private static final String TEN_123 = "road o0+u1o3-u4o6+u7o9-u0o2+u3o5-u6o8+u9o1-u2o4+u5o7-u8";
  private static final String EIGHT_19 = "road o0+o1+u3u4o6+o7+u1u2o4+o5+u7u0o2+o3+u5u6";
  private static final String TEN_124 = "road o0+o1+u3u4o6+o7+u9u0o2+o3+u5u6o8+o9+u1u2o4+o5+u7u8";
  private static final String SLIDES_OUT = "road u0u2o3-o0+o1+u4;road o4+u1o2-u3";

  public static void main(String[] args) {
    nothingChanges();
    writhe();
    linked();
    coloursByP();
    coloursOfBows();
    determinants();
    oneBowMore();
    lastRowAndColumn();
    twoOfOneBow();
    polynomialAskedFor();
    ringsLessOne();
    jones();
    shakenWithout();
    shakenOrder();
    threeHundred();
    rowAskedFor();
    rowOfMoves();
    sixBridges();
    fewestAndLeast();
    unknownIsNot();
    marksThatNoMoveChanges();
    finish("the bounds of marks hold");
  }

  private static String kinks(int n) {
    StringBuilder text = new StringBuilder("road");
    for (int b = 0; b < n; b++) text.append(" o").append(b).append("+u").append(b);
    return text.toString();
  }

  private static void nothingChanges() {
    says("(Nothing changes by what is asked.)");
    for (String text : new String[] {"", "road", WHITEHEAD, TANGLED, SLIDES_OUT, ELEVEN}) {
      KnotTown x = text.isEmpty() ? new KnotTown() : townOf(text);
      x.seed(9);
      x.feed(1, 2, 3, 4, 5);
      String before = state(x);
      x.writhe();
      x.linked();
      for (int p : new int[] {3, 5, 7, 11, 13, 4}) x.colours(p);
      x.determinant();
      for (int power = -5; power < 5; power++) x.polynomial(power & 1, power);
      for (int k = -1; k < 5; k++) for (int what = 0; what < 4; what++) x.row(k, what);
      x.changes(0);
      x.changes(1);
      x.shaken();
      for (int n = 0; n < 4; n++) x.gossip(n, n);
      x.heard(0, 3);
      x.floods(20, 50, 0, 1);
      for (int what = 0; what < 4; what++) x.land(what);
      for (int kind = 1; kind < 4; kind++) x.can(kind);
      stays("questions of '" + text + "'", x, before);
    }
  }

  private static void writhe() {
    says("WRITHE; -1000 without a TOWN.");
    due("writhe() without a town", new KnotTown().writhe(), -1000);
    due("writhe() without bridges", townOf("road").writhe(), 0);
    due("writhe() without bridges", townOf("road;road").writhe(), 0);
    due("writhe() of all +", townOf(ELEVEN).writhe(), 11);
    KnotTown x = townOf(ELEVEN);
    x.mirror();
    due("writhe() of all -", x.writhe(), -11);
    due("writhe() of both", townOf(TWO_GROUPS).writhe(), 0);
    due("writhe() of one", townOf("road o10-u10").writhe(), -1);
  }

  private static void linked() {
    says("LINKED; -1000 without two roads.");
    due("linked() without a town", new KnotTown().linked(), -1000);
    due("linked() of one road", townOf("road").linked(), -1000);
    due("linked() of one road", townOf(TREFOIL).linked(), -1000);
    due("linked() of two", townOf("road;road").linked(), 0);
    due("linked() of two apart", townOf(TWO_GROUPS).linked(), 0);
    says("half of the HANDS of those over which the one and under which the other one goes, together");
    due("linked()", townOf(HOPF).linked(), 1);
    due("linked() with bridges of one road", townOf(HOPF + "o2-u2u3o3-u4o4-").linked(), 1);
    KnotTown x = townOf("road o0+u1o2+u3o4+u5o6+u7o8+u9;road u0o1+u2o3+u4o5+u6o7+u8o9+");
    due("linked() of ten", x.linked(), 5);
    x.mirror();
    due("linked() of ten -", x.linked(), -5);
    KnotTown y = townOf(HOPF);
    y.change(0);
    due("linked() of + and -", y.linked(), 0);
  }

  private static void coloursByP() {
    says("COLOURS by p (3, 5, 7, 11, 13)");
    for (int p : new int[] {0, 1, 2, 4, 6, 8, 9, 10, 12, 14, 15, 17, 19, -3, -5, MIN, MAX}) {
      due("colours(" + p + ")", townOf(TREFOIL).colours(p), -1);
      due("colours(" + p + ") without a town", new KnotTown().colours(p), -1);
    }
    String[] texts = {"road", "road;road", KINK, TREFOIL, EIGHT, SEVEN, ELEVEN, LOOSE, TREFOIL + ";road", "road o0+u1o2+u0o1+u2o3+u4o5+u3o4+u5"};
    int[] primes = {3, 5, 7, 11, 13};
    long[][] ways = {{3, 5, 7, 11, 13}, {9, 25, 49, 121, 169}, {3, 5, 7, 11, 13}, {9, 5, 7, 11, 13}, {3, 25, 7, 11, 13}, {3, 5, 49, 11, 13}, {3, 5, 7, 121, 13},
        {9, 25, 49, 121, 169}, {27, 25, 49, 121, 169}, {27, 5, 7, 11, 13}};
    for (int i = 0; i < texts.length; i++) {
      for (int k = 0; k < 5; k++) due("colours(" + primes[k] + ") of '" + texts[i] + "'", townOf(texts[i]).colours(primes[k]), ways[i][k]);
    }
    due("colours(3) of 8_18", townOf(EIGHT_18).colours(3), 27);
    due("colours(5) of 8_18", townOf(EIGHT_18).colours(5), 25);
    due("colours(11) of 10_123", townOf(TEN_123).colours(11), 1331);
    due("colours(3) of 8_19", townOf(EIGHT_19).colours(3), 9);
    due("colours(13) of 10_124", townOf(TEN_124).colours(13), 13);
    for (int p : primes) due("colours(" + p + ") without a town", new KnotTown().colours(p), -1);
  }

  private static void coloursOfBows() {
    says("or a whole road that never goes under one");
    due("colours of a road over all", townOf(LOOSE).colours(3), 9);
    due("colours of a road over all", townOf("road u0u1;road o0+o1-").colours(13), 169);
    due("colours of a knot beside a road", townOf("road o0+u1o2+u3o4+u0o1+u2o3+u4;road").colours(5), 125);
    due("colours(13) of a knot with determinant 13", townOf("road u2o3-u5o0-u3o4+u1o2+u4o5-u0o1+").colours(13), 169);
  }

  private static void determinants() {
    says("DETERMINANT; NONE without a TOWN.");
    due("determinant() without a town", new KnotTown().determinant(), -1);
    String[] texts = {TREFOIL, EIGHT, WHITEHEAD, HOPF, SEVEN, ELEVEN, "road o0-u0", "road o0+u1o2+u0o1+u2o3+u4o5+u3o4+u5",
        "road u2o3-u5o0-u3o4+u1o2+u4o5-u0o1+", EIGHT_18, TEN_123, EIGHT_19, TEN_124};
    long[] wanted = {3, 5, 8, 2, 7, 11, 1, 9, 13, 45, 121, 3, 1};
    for (int i = 0; i < texts.length; i++) {
      KnotTown x = townOf(texts[i]);
      due("determinant() of '" + texts[i] + "'", x.determinant(), wanted[i]);
      x.mirror();
      due("determinant() of it mirrored", x.determinant(), wanted[i]);
    }
    says("(Without rows: 1.)");
    due("determinant() of no bridges", townOf("road").determinant(), 1);
    due("determinant() of one bridge, its row left out", townOf(KINK).determinant(), 1);
  }

  private static void oneBowMore() {
    says("if there is one BOW more than BRIDGES no row is left out; if two or more: 0");
    due("one bow, no bridge", townOf("road").determinant(), 1);
    due("two bows, no bridge", townOf("road;road").determinant(), 0);
    due("two bows, one bridge", townOf(KINK + ";road").determinant(), 0);
    due("two bows, one bridge", townOf("road;" + KINK).determinant(), 0);
    due("three bows, two bridges", townOf(LOOSE).determinant(), 0);
    due("four bows, three bridges", townOf(TREFOIL + ";road").determinant(), 0);
    due("four bows, three bridges", townOf("road;" + TREFOIL).determinant(), 0);
    due("as many bows as bridges, of two groups", townOf(TWO_GROUPS).determinant(), 0);
    due("as many bows as bridges, of two groups", townOf("road o0+u0;road o1+u1o2+u2").determinant(), 0);
    due("as many bows as bridges, of two groups", townOf("road o1+u1o2+u2;road o0+u0").determinant(), 0);
    due("as many bows as bridges, of two groups", townOf(TREFOIL + ";road u3o3-u4o4+").determinant(), 0);
    due("twelve bows, eleven bridges", townOf(ELEVEN + ";road").determinant(), 0);
  }

  private static void lastRowAndColumn() {
    says("one row (the last BRIDGE's by number) and one column (the last BOW's");
    // Whichever is left out, the number is the same for all towns that can be drawn: by other numbers and other first places.
    for (String text : new String[] {"road o7+u10o2+u7o10+u2", "road u10o2+u7o10+u2o7+", "road u2o7+u10o2+u7o10+"}) due("determinant() of '" + text + "'", townOf(text).determinant(), 3);
  }

  private static void twoOfOneBow() {
    says("with 2 for what goes over, -1 for each that comes or goes under (of one BOW all together)");
    for (String text : new String[] {"road o0+u0", "road u0o0+", "road o0+o1-u1u0", "road u0u1o1+o0+", "road o0+u0o1-u1u2o2+", kinks(11)}) {
      due("determinant() of '" + text + "'", townOf(text).determinant(), 1);
      due("colours(3) of '" + text + "'", townOf(text).colours(3), 3);
    }
  }

  private static void polynomialAskedFor() {
    says("Of the BRACKET (what 0), of JONES (1) the number at A to a power (-99 to 99); 0 for others, or without a TOWN.");
    KnotTown none = new KnotTown();
    for (int what = -1; what < 3; what++) due("polynomial(" + what + ", 0) without a town", none.polynomial(what, 0), 0);
    KnotTown x = townOf("road");
    due("polynomial(0, 0)", x.polynomial(0, 0), 1);
    due("polynomial(1, 0)", x.polynomial(1, 0), 1);
    for (int what : new int[] {-1, 2, 3, MIN, MAX}) due("polynomial(" + what + ", 0)", x.polynomial(what, 0), 0);
    for (int power : new int[] {-98, -99, -100, -101, 98, 99, 100, 101, MIN, MAX, MIN + 99, MAX - 99}) {
      for (String text : new String[] {"road", ELEVEN}) for (int what = 0; what < 2; what++) due("polynomial(" + what + ", " + power + ")", townOf(text).polynomial(what, power), 0);
    }
    KnotTown y = townOf(ELEVEN);
    y.mirror();
    for (int power : new int[] {MIN, MIN + 33, MIN + 99, MAX, MAX - 33, MAX - 99}) for (int what = 0; what < 2; what++) due("polynomial(" + what + ", " + power + ")", y.polynomial(what, power), 0);
  }

  private static void polynomial(int what, String text, int... powersAndNumbers) {
    KnotTown x = townOf(text);
    for (int power = -99; power <= 99; power++) {
      int number = 0;
      for (int i = 0; i < powersAndNumbers.length; i += 2) number += powersAndNumbers[i] == power ? powersAndNumbers[i + 1] : 0;
      due("polynomial(" + what + ", " + power + ") of '" + text + "'", x.polynomial(what, power), number);
    }
  }

  private static void ringsLessOne() {
    says("(how many rings there are then, less 1; a road without PASSES is one)");
    polynomial(0, "road", 0, 1);
    polynomial(0, "road;road", 2, -1, -2, -1);
    polynomial(0, "road o0+u0", 3, -1);
    polynomial(0, "road o0-u0", -3, -1);
    polynomial(0, "road o0+u0;road", 5, 1, 1, 1);
    polynomial(0, "road;road o0-u0", -5, 1, -1, 1);
    polynomial(0, TWO_GROUPS, 2, -1, -2, -1);
    polynomial(0, HOPF, 4, -1, -4, -1);
    polynomial(0, LOOSE, 2, -1, -2, -1);
    polynomial(0, TREFOIL, 5, -1, -3, -1, -7, 1);
    polynomial(0, kinks(11), 33, -1);
    polynomial(0, kinks(11) + ";road", 35, 1, 31, 1);
  }

  private static void jones() {
    says("JONES: BRACKET times (-A^3) to the power -WRITHE.");
    polynomial(1, "road", 0, 1);
    polynomial(1, "road;road", 2, -1, -2, -1);
    polynomial(1, "road o0+u0", 0, 1);
    polynomial(1, "road o0-u0", 0, 1);
    polynomial(1, kinks(11), 0, 1);
    polynomial(1, kinks(10), 0, 1);
    polynomial(1, kinks(11) + ";road", 2, -1, -2, -1);
    polynomial(1, HOPF, -2, -1, -10, -1);
    polynomial(1, TREFOIL, -4, 1, -12, 1, -16, -1);
    polynomial(1, "road u0o1-u2o0-u1o2-", 4, 1, 12, 1, 16, -1);
    polynomial(1, EIGHT, -8, 1, -4, -1, 0, 1, 4, -1, 8, 1);
    polynomial(1, EIGHT_18, -16, 1, -12, -4, -8, 6, -4, -7, 0, 9, 4, -7, 8, 6, 12, -4, 16, 1);
    polynomial(1, TEN_123, -20, -1, -16, 5, -12, -10, -8, 15, -4, -19, 0, 21, 4, -19, 8, 15, 12, -10, 16, 5, 20, -1);
    polynomial(1, EIGHT_19, -12, 1, -20, 1, -32, -1);
    polynomial(1, TEN_124, -16, 1, -24, 1, -40, -1);
    polynomial(1, ELEVEN, -64, -1, -60, 1, -56, -1, -52, 1, -48, -1, -44, 1, -40, -1, -36, 1, -32, -1, -28, 1, -20, 1);
  }

  private static void shakenWithout() {
    says("SHAKEN OUT; -2: it can't be by these MOVES, -3: UNKNOWN; NONE without a TOWN.");
    due("shaken() without a town", new KnotTown().shaken(), -1);
    due("shaken() without bridges", townOf("road").shaken(), 0);
    due("shaken() without bridges", townOf("road;road").shaken(), 0);
    due("shaken() of one", townOf(KINK).shaken(), 1);
    due("shaken() of a trefoil", townOf(TREFOIL).shaken(), -2);
    due("shaken() of linked roads", townOf(HOPF).shaken(), -2);
    due("shaken() of loose roads", townOf(LOOSE).shaken(), 1);
    due("shaken() of many", townOf(TANGLED).shaken(), -3);
    KnotTown x = townOf(KINK);
    x.off(0);
    due("shaken() behind off", x.shaken(), 0);
    x.image(0);
    feed(x, TREFOIL);
    x.town();
    due("shaken() of the next town", x.shaken(), -2);
    x.back(0);
    due("shaken() behind back", x.shaken(), 0);
  }

  private static void row(String text, int... wanted) {
    KnotTown x = townOf(text);
    due("shaken() of '" + text + "'", x.shaken(), wanted.length / 4);
    for (int i = 0; i < wanted.length; i++) due("row(" + i / 4 + ", " + i % 4 + ") of '" + text + "'", x.row(i / 4, i % 4), wanted[i]);
    for (int k = 0; k < wanted.length; k += 4) {
      int a = wanted[k + 1];
      int b = wanted[k + 2];
      boolean done = wanted[k] == 1 ? x.off(a) : wanted[k] == 2 ? x.apart(a, b) : x.slide(a, b, wanted[k + 3]);
      due("move " + k / 4 + " of the row", done, true);
    }
    due("bridges behind the row", x.count(1), 0);
  }

  private static void shakenOrder() {
    says("from the one that came first on, by MOVES in their order (OFF by BRIDGES, APART by two BRIDGES, the lesser ahead, then the other one, SLIDE by three likewise), the one now being the first");
    row("road o7+u7", 1, 7, -1, -1);
    row("road o5+u5;road o2+u2", 1, 2, -1, -1, 1, 5, -1, -1);
    row("road o10+u10o3+u3", 1, 3, -1, -1, 1, 10, -1, -1);
    // Off 1 and off 2 come ahead of apart, but by apart there are no bridges at once.
    row("road o1+o2-u2u1", 2, 1, 2, -1);
    row("road o0+u0o1-u1u2o2+", 1, 0, -1, -1, 2, 1, 2, -1);
    row("road o0+o10-;road u0u10", 2, 0, 10, -1);
    row("road o0+o1-o2+o3-;road u0u1u2u3", 2, 0, 1, -1, 2, 2, 3, -1);
    row("road o3+o2-o1+o0-;road u3u2u1u0", 2, 0, 1, -1, 2, 2, 3, -1);
    row(SLIDING, 2, 0, 2, -1, 2, 1, 3, -1);
    row(SLIDES_OUT, 3, 0, 1, 2, 2, 1, 3, -1, 1, 0, -1, -1, 2, 2, 4, -1);
  }

  private static void threeHundred() {
    says("300 at most, that without BRIDGES not counted: if the 301st would come ahead of it, it is UNKNOWN.");
    String[] three = {"road u9o9-u2u4u5o6+u7o0+o1+o2-u3o5+u6o7+u0u10o10-o3+u8o8-o4+u1", "road u9o3-u3o7+u7o0-u1o1+u2o9-u10o10+;road o4+o8+u8u4u6o6+o2-u0u5o5+"};
    for (String text : three) due("shaken() of '" + text + "', 300 in all", townOf(text).shaken(), -2);
    String[] more = {"road o6+u6u2u4o3-o7-u7u5o5+u3o4+o0+u1o2+u8o8-u0o1+", "road o6-u7u0u1u3o4+u2o3-u5u6o7-o5+;road o2+u4o0-o1+"};
    for (String text : more) due("shaken() of '" + text + "', 301 in all", townOf(text).shaken(), -3);
    String[] just = {"road o6-u4u2u1o3-u3u0o2-o4+u6;road u8o5+u5o0-u7o7-o1+o8-", "road u1u8o8+o1+o5-u5;road u3o3-u2o7+u7o6-u6o2+u4o4-o0-u0"};
    due("shaken() of eleven bridges", townOf("road u7u0o1-o9-u9u2u3o4+u8o8+u5u6;road o2-o3+u4o5+o6-o7+u10o10+o0-u1").shaken(), 7);
    for (String text : just) due("shaken() of '" + text + "', 300 ahead of it", townOf(text).shaken(), 7);
    String[] late = {"road u2u3o8+u8u4u5u0o6+u6u1;road o2-o3+o4-o7+u7o5+o0-o1+", "road u4u7o7-u3o0+o2-o3-u8o8+o1+u2u0u5u6o6-o5-u1o4-"};
    for (String text : late) due("shaken() of '" + text + "', 301 ahead of it", townOf(text).shaken(), -3);
    due("shaken() of 8 kinks, 255 ahead", townOf(kinks(8)).shaken() > 0, true);
    due("row(0, 0) of 301", townOf(more[0]).row(0, 0), -3);
    due("row(6, 0) of 300", townOf(just[0]).row(6, 0) > 0, true);
  }

  private static void rowAskedFor() {
    says("the k-th MOVE what 0: kind, 1 to 3: its BRIDGES, the least first (NONE: it has not so many). -2: it can't be, or it has not so many MOVES, -3: UNKNOWN; NONE without these (k below 0, too).");
    KnotTown x = townOf(SLIDES_OUT);
    for (int what = 0; what < 4; what++) {
      for (int k : new int[] {4, 5, 299, 300, 301, MAX}) due("row(" + k + ", " + what + ")", x.row(k, what), -2);
      for (int k : new int[] {-1, -2, MIN}) due("row(" + k + ", " + what + ")", x.row(k, what), -1);
    }
    for (int k = 0; k < 5; k++) for (int what : new int[] {-1, 4, 5, MIN, MAX}) due("row(" + k + ", " + what + ")", x.row(k, what), -1);
    for (int what = 0; what < 4; what++) {
      due("row(0, " + what + ") without a town", new KnotTown().row(0, what), -1);
      due("row(0, " + what + ") without bridges", townOf("road").row(0, what), -2);
      due("row(0, " + what + ") of a trefoil", townOf(TREFOIL).row(0, what), -2);
      due("row(0, " + what + ") of many", townOf(TANGLED).row(0, what), -3);
      due("row(500, " + what + ") of many", townOf(TANGLED).row(500, what), -3);
      due("row(-1, " + what + ") of many", townOf(TANGLED).row(-1, what), -1);
      due("row(-1, " + what + ") of a trefoil", townOf(TREFOIL).row(-1, what), -1);
    }
    for (String text : new String[] {"road", TREFOIL, TANGLED}) for (int what : new int[] {-1, 4}) due("row(0, " + what + ") of '" + text + "'", townOf(text).row(0, what), -1);
  }

  private static void rowOfMoves() {
    says("The ROW: the MOVES by which that one came first.");
    KnotTown x = townOf(SLIDES_OUT);
    int[] wanted = {3, 0, 1, 2, 2, 1, 3, -1, 1, 0, -1, -1, 2, 2, 4, -1};
    for (int i = wanted.length - 1; i >= 0; i--) due("row(" + i / 4 + ", " + i % 4 + "), asked from behind", x.row(i / 4, i % 4), wanted[i]);
    due("changes(0) between", x.changes(0), 0);
    for (int i = 0; i < wanted.length; i++) due("row(" + i / 4 + ", " + i % 4 + ") behind changes", x.row(i / 4, i % 4), wanted[i]);
    KnotTown y = townOf(SLIDES_OUT);
    for (int what = 0; what < 2; what++) due("changes(" + what + ") ahead", y.changes(what), 0);
    due("shaken() behind changes", y.shaken(), 4);
    for (int i = 0; i < wanted.length; i++) due("row(" + i / 4 + ", " + i % 4 + ") behind changes", y.row(i / 4, i % 4), wanted[i]);
    due("the first move", x.slide(0, 1, 2), true);
    due("shaken() is one less", x.shaken(), 3);
    for (int i = 0; i < 12; i++) due("row(" + i / 4 + ", " + i % 4 + ") behind it", x.row(i / 4, i % 4), wanted[i + 4]);
  }

  private static void sixBridges() {
    says("CHANGES what 0: how many, 1: the set (by NUMBERS); -2: there is none; NONE without these (7 BRIDGES or more).");
    for (int what = 0; what < 2; what++) {
      due("changes(" + what + ") without a town", new KnotTown().changes(what), -1);
      due("changes(" + what + ") without bridges", townOf("road").changes(what), 0);
      due("changes(" + what + ") without bridges", townOf("road;road").changes(what), 0);
      due("changes(" + what + ") of six", townOf(kinks(6)).changes(what), 0);
      due("changes(" + what + ") of seven", townOf(kinks(7)).changes(what), -1);
      due("changes(" + what + ") of seven", townOf(SEVEN).changes(what), -1);
      due("changes(" + what + ") of eleven", townOf(ELEVEN).changes(what), -1);
    }
    for (int what : new int[] {-1, 2, 3, MIN, MAX}) {
      due("changes(" + what + ")", townOf(TREFOIL).changes(what), -1);
      due("changes(" + what + ") without a town", new KnotTown().changes(what), -1);
      due("changes(" + what + ") of seven", townOf(SEVEN).changes(what), -1);
    }
    KnotTown x = townOf(TREFOIL);
    for (int i = 0; i < 3; i++) x.twist(5, true, true);
    due("changes(0) of six", x.changes(0), 1);
    due("changes(1) of six", x.changes(1), 1);
    x.twist(5, true, true);
    due("changes(0) of seven", x.changes(0), -1);
    x.off(6);
    due("changes(0) of six again", x.changes(0), 1);
  }

  private static void fewestAndLeast() {
    says("the fewest BRIDGES to be changed so that it is SHAKEN OUT (UNKNOWN counts as not), of several sets the least as bits");
    String[] texts = {TREFOIL, "road o2+u1o0+u2o1+u0", "road o7+u8o10+u7o8+u10", "road o10+u8o9+u10o8+u9", EIGHT, WHITEHEAD, HOPF, "road o9+u10;road u9o10+", LOOSE,
        "road o0+u1o2+u3o4+u0o1+u2o3+u4", "road o0+u1o2+u3;road u0o1+u2o3+", "road o0+u1o2+u0o1+u2o3+u4o5+u3o4+u5", "road o0+u1o2+u3o4+u5;road u0o1+u2o3+u4o5+"};
    int[] many = {1, 1, 1, 1, 1, 1, 1, 1, 0, 2, 2, 2, 3};
    int[] sets = {1, 1, 128, 256, 1, 2, 1, 512, 0, 3, 3, 9, 7};
    for (int i = 0; i < texts.length; i++) {
      KnotTown x = townOf(texts[i]);
      due("changes(0) of '" + texts[i] + "'", x.changes(0), many[i]);
      due("changes(1) of '" + texts[i] + "'", x.changes(1), sets[i]);
      for (int b = 0; b < 11; b++) if ((sets[i] >> b & 1) == 1) x.change(b);
      due("shaken out behind the changes", x.shaken() >= 0, true);
      due("changes(0) behind them", x.changes(0), 0);
      due("changes(1) behind them", x.changes(1), 0);
    }
  }

  private static void unknownIsNot() {
    says("(UNKNOWN counts as not)");
    KnotTown x = townOf(TANGLED);
    due("shaken()", x.shaken(), -3);
    due("changes(0)", x.changes(0), 1);
    due("changes(1)", x.changes(1), 1);
    due("shaken()", x.shaken(), -3);
    x.change(0);
    due("shaken()", x.shaken() > 0, true);
  }

  private static void marksThatNoMoveChanges() {
    says("marks that no move changes: colours, a whole number, a polynomial, how two roads are linked");
    KnotTown x = townOf("road o0+u1o2+u3;road u0o1+u2o3+");
    x.twist(1, true, false);
    String before = marks(x);
    x.off(4);
    due("behind off", marks(x).equals(before), true);
    KnotTown y = townOf(SLIDES_OUT);
    before = marks(y);
    y.slide(0, 1, 2);
    due("behind slide", marks(y).equals(before), true);
    y.apart(1, 3);
    due("behind apart", marks(y).equals(before), true);
  }

  private static String marks(KnotTown x) {
    StringBuilder s = new StringBuilder();
    for (int p : new int[] {3, 5, 7, 11, 13}) s.append(x.colours(p)).append(' ');
    s.append(x.determinant()).append(' ').append(x.linked());
    for (int power = -50; power <= 50; power++) s.append(' ').append(x.polynomial(1, power));
    return s.toString();
  }
}
