/** Each promise of the document by itself: ordinary inputs, the edges that it names, wrong inputs. */
public final class PromisesTest extends Answers {
  private static final int[] WILD = {Integer.MIN_VALUE, -1000, -2, -1, 11, 12, 22, 23, 31, 32, 33, 64, 1000, Integer.MAX_VALUE};

  public static void main(String[] args) {
    newObject();
    tape();
    towns();
    townFaults();
    rules();
    ruleFaults();
    inForce();
    placesAndBridges();
    lands();
    offAndApart();
    slides();
    byHand();
    cans();
    marks();
    polynomials();
    shakenOut();
    changesOfBridges();
    gossips();
    ruleValues();
    drawsAndFloods();
    counts();
    images();
    for (int a : WILD) {
      wildArguments(new KnotTown(), a);
      wildArguments(townOf(ELEVEN), a);
      wildArguments(townOf("road;road"), a);
    }
    finish("all promises hold");
  }

  // Promise 1, and what each promise says without a town.
  private static void newObject() {
    KnotTown x = new KnotTown();
    int[] counts = {0, 0, 0, 0, 0, 0, 0, -1, 0, 0, 0, -1};
    for (int what = 0; what < counts.length; what++) due("new count(" + what + ")", x.count(what), counts[what]);
    due("new count(-1)", x.count(-1), -1);
    for (int what = 0; what < 5; what++) due("new place", x.place(0, what), -1);
    for (int what = 0; what < 3; what++) due("new bridge", x.bridge(0, what), -1);
    for (int what = 0; what < 4; what++) due("new land", x.land(what), -1);
    due("new off", x.off(0), false);
    due("new apart", x.apart(0, 1), false);
    due("new slide", x.slide(0, 1, 2), false);
    due("new change", x.change(0), -1);
    due("new twist", x.twist(0, true, true), -1);
    due("new mirror", x.mirror(), -1);
    due("new backToFront", x.backToFront(0), -1);
    for (int kind = 1; kind < 4; kind++) due("new can", x.can(kind), -1);
    due("new writhe", x.writhe(), -1000);
    due("new linked", x.linked(), -1000);
    due("new colours", x.colours(3), -1);
    due("new determinant", x.determinant(), -1);
    due("new polynomial", x.polynomial(0, 0), 0);
    due("new polynomial", x.polynomial(1, 0), 0);
    due("new shaken", x.shaken(), -1);
    due("new row", x.row(0, 0), -1);
    due("new changes", x.changes(0), -1);
    due("new gossip", x.gossip(0, 0), -1);
    due("new heard", x.heard(0, 0), -1);
    due("new floods", x.floods(1, 0, 0, 0), -1);
    for (int k = 0; k < 4; k++) due("new back", x.back(k), -1);
    due("NONE", KnotTown.NONE, -1);
  }

  // Promises 2 and 3.
  private static void tape() {
    KnotTown x = new KnotTown();
    for (int i = 1; i <= 20; i++) due("feed", x.feed(0, -1, i, 255, 1 << 31), 20 * i);
    due("feed of a full tape", x.feed(1, 1, 1, 1, 1), -1);
    due("tape", x.count(9), 400);
    due("end(401)", x.end(401), -1);
    due("end(-1)", x.end(-1), -1);
    due("tape", x.count(9), 400);
    due("end(400)", x.end(400), 400);
    due("end(381)", x.end(381), 381);
    due("feed behind 381", x.feed(1, 1, 1, 1, 1), -1);
    due("end(382)", x.end(382), -1);
    due("end(380)", x.end(380), 380);
    due("feed behind 380", x.feed(1, 1, 1, 1, 1), 400);
    due("end(0)", x.end(0), 0);
    feed(x, "ro");
    feed(x, "ad");
    due("a word fed in two parts", x.town(), 0);
    due("roads", x.count(0), 1);
    // What was cut off the tape is not read any more.
    cut(x, "road o1+u10", 10, 1);
    cut(x, "road;roads", 9, 0);
    cut(x, "road;road ;", 10, 0);
    feed(x, "bar 1<=1");
    x.end(6);
    due("a rule cut short", x.rule(), fault(6, 0));
    feed(x, "bar 1=100000");
    x.end(11);
    due("a rule cut short", x.rule(), 0);
  }

  private static void cut(KnotTown x, String text, int n, int bridges) {
    feed(x, text);
    x.end(n);
    due("town of '" + text + "', cut", x.town(), bridges);
  }

  // Promise 4: what is a town.
  private static void towns() {
    String[] texts = {TREFOIL, EIGHT, WHITEHEAD, HOPF, ELEVEN, "road", "road;road", "  road  ;  road  ", "road o 00010 - u 10", LOOSE};
    int[] bridges = {3, 4, 5, 2, 11, 0, 0, 0, 1, 2};
    int[] roads = {1, 1, 2, 2, 1, 1, 2, 2, 1, 2};
    for (int i = 0; i < texts.length; i++) {
      KnotTown x = new KnotTown();
      feed(x, texts[i]);
      due("town of '" + texts[i] + "'", x.town(), bridges[i]);
      due("roads of '" + texts[i] + "'", x.count(0), roads[i]);
      due("tape behind '" + texts[i] + "'", x.count(9), 0);
    }
    KnotTown x = townOf("road o0+u0");
    due("rule", ruleOf(x, "bar 1=1"), 0);
    x.force(0);
    x.seed(99);
    due("off", x.off(0), true);
    due("moves done", x.count(4), 1);
    feed(x, TREFOIL);
    due("town", x.town(), 3);
    due("moves done", x.count(4), 0);
    due("in force", x.count(7), 0);
    due("x", x.count(8), 99);
    StringBuilder long400 = new StringBuilder("road o0+u0");
    while (long400.length() < 400) long400.append(' ');
    x = new KnotTown();
    feed(x, long400.toString());
    due("a town of 400 bytes", x.town(), 1);
  }

  private static void townFaults() {
    townFault("", 0, 0);
    townFault("   ", 3, 0);
    townFault(";road", 0, 0);
    townFault("road;", 5, 0);
    townFault("road; ", 6, 0);
    townFault("Road", 0, 0);
    townFault("roads", 0, 0);
    townFault("roa", 0, 0);
    townFault("road road", 5, 0);
    townFault("road0", 4, 0);
    townFault("road o", 6, 0);
    townFault("road o+", 6, 0);
    townFault("road ou0", 5, 0);
    townFault("roado0+u0", 0, 0);
    townFault("road o0", 7, 0);
    townFault("road o0 u0", 8, 0);
    townFault("road o0+u0-", 10, 0);
    townFault("road o0+u0\t", 10, 0);
    townFault("road o0+u0" + (char) 0, 10, 0);
    townFault("road o0+u0" + (char) 233, 10, 0);
    townFault("road o11+", 6, 1);
    townFault("road o000000+", 6, 1);
    townFault("road u 99999", 7, 1);
    townFault("road u 100000", 7, 1);
    townFault("road 100000", 5, 0);
    townFault("road;road;road", 10, 4);
    townFault("road;road; road", 11, 4);
    townFault("road;road;street", 10, 0);
    townFault("road;road;", 10, 0);
    townFault("road o0+o0+", 9, 5);
    townFault("road o0+o0", 9, 5);
    townFault("road u3;road u3", 14, 5);
    townFault("road o0+", 8, 6);
    townFault("road u0  ", 9, 6);
    townFault("road o0+;road u1", 16, 6);
    townFault("road o0+ o", 10, 0);
    townFault("road o0+o1+u0u1", 15, 7);
    townFault("road o0+;road u0", 16, 7);
    townFault("road o0+o1-u0u1 ", 16, 7);
    townFault("road o0+o1+;road u0u1", 21, 7);
    townFault("road o0-u1o2+u0o1+u2", 20, 7);
  }

  // Promise 5: what is a rule; its values are in ruleValues.
  private static void rules() {
    KnotTown x = new KnotTown();
    String[] texts = {"bar 1=1", "bar[hand=0]or not[through=1 and over=0]", " bar 1=1or2=2and3=3;bar1=1",
        "bar bridge+hand-from*to/through%over<=minute+bridges", "bar not not not not not not not not not not 1>=99999", "bar [[[[[[[[[[1>0]]]]]]]]]]"};
    for (int i = 0; i < texts.length; i++) due("rule '" + texts[i] + "'", ruleOf(x, texts[i]), i);
    due("rules", x.count(6), 6);
    feed(x, "bar 1=1");
    due("a seventh rule", x.rule(), -1);
    due("tape behind it", x.count(9), 7);
    x.end(0);
    due("a seventh rule, with a fault", x.rule(), -1);
    KnotTown y = new KnotTown();
    StringBuilder twelve = new StringBuilder("bar 1=1");
    for (int i = 1; i < 12; i++) twelve.append(";bar 1=1");
    due("twelve clauses", ruleOf(y, twelve.toString()), 0);
    StringBuilder sixty = new StringBuilder("bar 1");
    for (int i = 1; i < 58; i++) sixty.append("+1");
    due("sixty things", ruleOf(y, sixty + "=1"), 1);
    due("one thing more", ruleOf(y, sixty + "+1=1"), fault(122, 3));
    due("ten deep in both parts", ruleOf(y, "bar not[not[not[not[not[1=1]]]]]and not[not[not[not[not[1=1]]]]]"), 2);
  }

  private static void ruleFaults() {
    ruleFault("", 0, 0);
    ruleFault("  ", 2, 0);
    ruleFault("bar", 3, 0);
    ruleFault("bars 1=1", 0, 0);
    ruleFault("bar 1", 5, 0);
    ruleFault("bar 1=", 6, 0);
    ruleFault("bar 1=1;", 8, 0);
    ruleFault("bar 1=1 bar 2=2", 8, 0);
    ruleFault("bar 1=1=1", 7, 0);
    ruleFault("bar 1< =1", 7, 0);
    ruleFault("bar 1=<1", 6, 0);
    ruleFault("bar 1==1", 6, 0);
    ruleFault("bar -1=1", 4, 0);
    ruleFault("bar 1+=1", 6, 0);
    ruleFault("bar 1 1=1", 6, 0);
    ruleFault("bar bridge1=1", 10, 0);
    ruleFault("bar and=1", 4, 0);
    ruleFault("bar not=1", 7, 0);
    ruleFault("bar notover=1", 4, 0);
    ruleFault("bar minutes=1", 4, 0);
    ruleFault("bar 1=1 orx=1", 8, 0);
    ruleFault("bar 1=1 and", 11, 0);
    ruleFault("bar [1+2]=3", 8, 0);
    ruleFault("bar [1=1", 8, 0);
    ruleFault("bar 1=1]", 7, 0);
    ruleFault("bar (1=1)", 4, 0);
    ruleFault("bar 1=1,", 7, 0);
    ruleFault("bar 100000=1", 4, 1);
    ruleFault("bar 1=000000", 6, 1);
    ruleFault("bar 1=1 100000", 8, 0);
    ruleFault("bar [[[[[[[[[[[1=1", 14, 2);
    ruleFault("bar not not not not not not not not not not not 1=1", 44, 2);
    ruleFault("bar not[not[not[not[not[ [1=1", 25, 2);
    ruleFault("bar not[not[not[not[not[not 1=1", 24, 2);
    ruleFault("bar 1=1;bar 1=1;bar 1=1;bar 1=1;bar 1=1;bar 1=1;bar 1=1;bar 1=1;bar 1=1;bar 1=1;bar 1=1;bar 1=1; bar", 97, 4);
    ruleFault("bar 1=1;bar 1=1;bar 1=1;bar 1=1;bar 1=1;bar 1=1;bar 1=1;bar 1=1;bar 1=1;bar 1=1;bar 1=1;bar 1=1;bat", 96, 0);
    StringBuilder sixty = new StringBuilder("bar 1");
    for (int i = 1; i < 60; i++) sixty.append("*1");
    ruleFault(sixty + "=1", 123, 3);
    ruleFault(sixty + "*1", 124, 3);
    ruleFault(sixty + "*1000000", 124, 1);
    ruleFault(sixty + "*no", 124, 0);
    ruleFault(sixty + "", 123, 0);
    StringBuilder clauses = new StringBuilder("bar 1");
    for (int i = 1; i < 56; i++) clauses.append("*1");
    ruleFault(clauses + "=1;bar 1=1;bar 1=1", 124, 3);
  }

  // Promise 6.
  private static void inForce() {
    KnotTown x = new KnotTown();
    due("force(-1)", x.force(-1), -1);
    due("force(0)", x.force(0), -2);
    ruleOf(x, "bar 1=1");
    ruleOf(x, "bar 1=2");
    due("force(1)", x.force(1), -1);
    due("force(2)", x.force(2), -2);
    due("force(-2)", x.force(-2), -2);
    due("in force", x.count(7), 1);
    due("force(0)", x.force(0), 1);
    due("force(-1)", x.force(-1), 0);
    due("in force", x.count(7), -1);
  }

  // Promises 7 and 8.
  private static void placesAndBridges() {
    KnotTown x = townOf("road o7-u2;road o2-u7");
    int[][] places = {{7, 1, 0, 1, 0}, {2, 0, 0, 0, 0}, {2, 1, 1, 3, 1}, {7, 0, 1, 2, 1}};
    for (int p = 0; p < 4; p++) for (int what = 0; what < 5; what++) due("place(" + p + ", " + what + ")", x.place(p, what), places[p][what]);
    due("place(4, 0)", x.place(4, 0), -1);
    due("place(-1, 0)", x.place(-1, 0), -1);
    due("place(0, 5)", x.place(0, 5), -1);
    due("place(0, -1)", x.place(0, -1), -1);
    int[] of7 = {0, 0, 3, -1, -1};
    for (int what = 0; what < 5; what++) due("bridge(7, " + what + ")", x.bridge(7, what), of7[what]);
    due("bridge(7, -1)", x.bridge(7, -1), -1);
    due("bridge(0, 0)", x.bridge(0, 0), -1);
    due("bridge(-1, 0)", x.bridge(-1, 0), -1);
    due("bridge(11, 0)", x.bridge(11, 0), -1);
    x = townOf("road u0u1;road o0+o1-");
    int[] bows = {0, 1, 2, 2};
    for (int p = 0; p < 4; p++) due("a bow never under", x.place(p, 4), bows[p]);
    x = townOf(LOOSE);
    bows = new int[] {0, 0, 1, 2};
    for (int p = 0; p < 4; p++) due("a bow never under", x.place(p, 4), bows[p]);
    x = townOf("road;road o0+o1-u1u0");
    due("places of the second road", x.place(3, 3), 0);
    due("its road", x.place(0, 2), 1);
  }

  // Promise 9.
  private static void lands() {
    String[] texts = {TREFOIL, EIGHT, WHITEHEAD, HOPF, ELEVEN, "road", "road;road", "road o0+u0;road u3o3-", "road o0+u0"};
    int[][] lands = {{5, 3, 3, 2}, {6, 3, 2, 4}, {7, 4, 2, 4}, {4, 2, 4, 0}, {13, 11, 11, 0}, {0, 0, 0, 0}, {0, 0, 0, 0}, {6, 2, 2, 0}, {3, 2, 1, 0}};
    for (int i = 0; i < texts.length; i++) {
      KnotTown x = townOf(texts[i]);
      for (int what = 0; what < 4; what++) due("land(" + what + ") of '" + texts[i] + "'", x.land(what), lands[i][what]);
      due("land(4)", x.land(4), -1);
      due("land(-1)", x.land(-1), -1);
    }
  }

  // Promises 10 and 11.
  private static void offAndApart() {
    KnotTown x = townOf("road o0+u0o1-u1u2o2+");
    due("off(3)", x.off(3), false);
    due("off(-1)", x.off(-1), false);
    due("off(11)", x.off(11), false);
    due("off(1)", x.off(1), true);
    due("off(1) again", x.off(1), false);
    int[] left = {0, 0, 2, 2};
    for (int p = 0; p < 4; p++) due("place behind off", x.place(p, 0), left[p]);
    due("hands stay", x.bridge(2, 0), 1);
    due("moves done", x.count(4), 1);
    due("no off of a trefoil", townOf(TREFOIL).off(0), false);
    x = townOf("road u2u5o5-o2-");
    due("off across the first place", x.off(2), true);
    due("off of the last", x.off(5), true);
    due("roads", x.count(0), 1);
    due("places", x.count(2), 0);

    x = townOf(LOOSE);
    due("apart(0, 0)", x.apart(0, 0), false);
    due("apart(0, 2)", x.apart(0, 2), false);
    due("apart(-1, 1)", x.apart(-1, 1), false);
    due("apart(1, 0)", x.apart(1, 0), true);
    due("bridges", x.count(1), 0);
    due("roads", x.count(0), 2);
    due("moves done", x.count(4), 1);
    due("apart again", x.apart(1, 0), false);
    due("no apart of a Hopf link", townOf(HOPF).apart(0, 1), false);
    due("no apart of a trefoil", townOf(TREFOIL).apart(0, 1), false);
    x = townOf(SLIDING);
    due("apart(0, 1)", x.apart(0, 1), false);
    due("apart(1, 3)", x.apart(1, 3), true);
    int[] passes = {0, 1, 0, 0, 2, 0, 2, 1};
    for (int p = 0; p < 4; p++) {
      due("bridge behind apart", x.place(p, 0), passes[2 * p]);
      due("pass behind apart", x.place(p, 1), passes[2 * p + 1]);
    }
  }

  // Promise 12.
  private static void slides() {
    KnotTown x = townOf(SLIDING);
    due("can(3)", x.can(3), 4);
    due("slide(0, 0, 1)", x.slide(0, 0, 1), false);
    due("slide(0, 1, 4)", x.slide(0, 1, 4), false);
    due("slide(-1, 1, 2)", x.slide(-1, 1, 2), false);
    int before = 0;
    for (int power = -99; power <= 99; power++) before += Math.abs(x.polynomial(1, power));
    due("slide(2, 1, 0)", x.slide(2, 1, 0), true);
    due("moves done", x.count(4), 1);
    due("bridges", x.count(1), 4);
    due("determinant", x.determinant(), 1);
    int after = 0;
    for (int power = -99; power <= 99; power++) after += Math.abs(x.polynomial(1, power));
    due("polynomial behind a slide", after, before);
    due("slide back", x.slide(0, 2, 1), true);
    KnotTown y = townOf(SLIDING);
    for (int p = 0; p < 8; p++) for (int what = 0; what < 2; what++) due("slid there and back", x.place(p, what), y.place(p, what));
    due("slide of a trefoil", townOf(TREFOIL).slide(0, 1, 2), false);
    // Two pieces of land are so: the one round which the least end lies is taken.
    x = townOf(TREFOIL);
    x.change(0);
    due("can(3)", x.can(3), 1);
    due("slide(1, 2, 0)", x.slide(1, 2, 0), true);
    Model m = new Model();
    m.feed(1919902052, 544157739, 1966174002, 729100399, 824931634);
    m.town();
    m.change(0);
    m.slide(0, 1, 2);
    for (int p = 0; p < 6; p++) for (int what = 0; what < 2; what++) due("behind the slide", x.place(p, what), m.place(p, what));
  }

  // Promises 13 to 16.
  private static void byHand() {
    KnotTown x = townOf(TREFOIL);
    due("change(0)", x.change(0), 0);
    due("over it", x.bridge(0, 1), 3);
    due("under it", x.bridge(0, 2), 0);
    due("change(0)", x.change(0), 1);
    due("over it", x.bridge(0, 1), 0);
    due("change(3)", x.change(3), -1);
    due("change(-1)", x.change(-1), -1);
    due("moves done", x.count(4), 0);

    due("twist(5, ..)", x.twist(5, true, false), 3);
    int[] made = {x.place(6, 0), x.place(6, 1), x.place(7, 0), x.place(7, 1), x.bridge(3, 0), x.place(7, 3)};
    int[] wanted = {3, 1, 3, 0, 0, 0};
    for (int i = 0; i < 6; i++) due("twist " + i, made[i], wanted[i]);
    due("twist(0, ..)", x.twist(0, false, true), 4);
    made = new int[] {x.place(1, 0), x.place(1, 1), x.place(2, 0), x.place(2, 1), x.bridge(4, 0), x.place(3, 0)};
    wanted = new int[] {4, 0, 4, 1, 1, 1};
    for (int i = 0; i < 6; i++) due("twist " + i, made[i], wanted[i]);
    due("twist(10, ..)", x.twist(10, true, true), -1);
    due("twist(-1, ..)", x.twist(-1, true, true), -1);
    due("off(3)", x.off(3), true);
    due("the least that is free", x.twist(0, true, true), 3);
    for (int b = 5; b < 11; b++) due("twist", x.twist(0, true, true), b);
    due("a twelfth bridge", x.twist(0, true, true), -1);
    due("bridges", x.count(1), 11);
    due("no twist without passes", townOf("road;road").twist(0, true, true), -1);
    x = townOf(HOPF);
    due("twist behind the last of a road", x.twist(1, true, true), 2);
    due("its road", x.place(3, 2), 0);
    due("the next road", x.place(4, 2), 1);

    x = townOf(TREFOIL);
    due("mirror", x.mirror(), 3);
    due("writhe", x.writhe(), -3);
    for (int b = 0; b < 3; b++) due("mirrored", x.place(x.bridge(b, 1), 0), b);
    due("place(0, 1)", x.place(0, 1), 0);
    due("polynomial", x.polynomial(1, 16), -1);
    due("mirror of none", townOf("road").mirror(), 0);

    x = townOf(WHITEHEAD);
    due("writhe", x.writhe(), -1);
    due("backToFront(2)", x.backToFront(2), -1);
    due("backToFront(-1)", x.backToFront(-1), -1);
    due("backToFront(1)", x.backToFront(1), 4);
    int[] road = {4, 3, 2, 0};
    for (int p = 0; p < 4; p++) due("the other way round", x.place(6 + p, 0), road[p]);
    int[] hands = {0, 0, 0, 1, 1};
    for (int b = 0; b < 5; b++) due("hand of " + b, x.bridge(b, 0), hands[b]);
    due("land", x.land(0), 7);
    x = townOf(TREFOIL);
    due("backToFront(0)", x.backToFront(0), 6);
    due("place(0, 0)", x.place(0, 0), 2);
    due("place(0, 1)", x.place(0, 1), 0);
    due("hands stay", x.writhe(), 3);
    due("backToFront(1)", x.backToFront(1), -1);
    due("a road without passes", townOf("road;road").backToFront(1), 0);
  }

  // Promise 17.
  private static void cans() {
    String[] texts = {TREFOIL, HOPF, SLIDING, LOOSE, "road o0+u0o1-u1u2o2+", "road o0+u0;road u3o3-", "road"};
    int[][] cans = {{0, 0, 0}, {0, 0, 0}, {0, 2, 4}, {0, 1, 0}, {3, 0, 0}, {2, 0, 0}, {0, 0, 0}};
    for (int i = 0; i < texts.length; i++) {
      KnotTown x = townOf(texts[i]);
      for (int kind = 1; kind < 4; kind++) due("can(" + kind + ") of '" + texts[i] + "'", x.can(kind), cans[i][kind - 1]);
      due("can(0)", x.can(0), -1);
      due("can(4)", x.can(4), -1);
    }
  }

  // Promises 18 to 21.
  private static void marks() {
    String[] texts = {TREFOIL, EIGHT, WHITEHEAD, HOPF, ELEVEN, SEVEN, "road", "road;road", "road o0+u0;road u3o3-", LOOSE, "road o0-u0"};
    int[] writhes = {3, 0, -1, 2, 11, 7, 0, 0, 0, 0, -1};
    int[] linkeds = {-1000, -1000, 0, 1, -1000, -1000, -1000, 0, 0, 0, -1000};
    long[] determinants = {3, 5, 8, 2, 11, 7, 1, 0, 0, 0, 1};
    int[] primes = {3, 5, 7, 11, 13};
    long[][] colours = {{9, 5, 7, 11, 13}, {3, 25, 7, 11, 13}, {3, 5, 7, 11, 13}, {3, 5, 7, 11, 13}, {3, 5, 7, 121, 13}, {3, 5, 49, 11, 13},
        {3, 5, 7, 11, 13}, {9, 25, 49, 121, 169}, {9, 25, 49, 121, 169}, {9, 25, 49, 121, 169}, {3, 5, 7, 11, 13}};
    for (int i = 0; i < texts.length; i++) {
      KnotTown x = townOf(texts[i]);
      due("writhe of '" + texts[i] + "'", x.writhe(), writhes[i]);
      due("linked of '" + texts[i] + "'", x.linked(), linkeds[i]);
      due("determinant of '" + texts[i] + "'", x.determinant(), determinants[i]);
      for (int k = 0; k < 5; k++) due("colours(" + primes[k] + ") of '" + texts[i] + "'", x.colours(primes[k]), colours[i][k]);
      for (int p : new int[] {-3, 0, 1, 2, 4, 6, 9, 12, 17}) due("colours(" + p + ")", x.colours(p), -1);
    }
    KnotTown x = townOf("road o0+u1o2+u3;road u0o1+u2o3+");
    due("linked twice", x.linked(), 2);
    x.backToFront(0);
    due("linked the other way", x.linked(), -2);
    due("determinant of a trefoil beside a road", townOf(TREFOIL + ";road").determinant(), 0);
    due("colours of a trefoil beside a road", townOf(TREFOIL + ";road").colours(3), 27);
  }

  // Promise 22.
  private static void polynomials() {
    jones(TREFOIL, new int[] {-16, -1, -12, 1, -4, 1});
    jones(EIGHT, new int[] {-8, 1, -4, -1, 0, 1, 4, -1, 8, 1});
    jones(WHITEHEAD, new int[] {-6, -1, -2, 1, 2, -2, 6, 1, 10, -2, 14, 1});
    jones(HOPF, new int[] {-10, -1, -2, -1});
    jones("road", new int[] {0, 1});
    jones("road;road", new int[] {-2, -1, 2, -1});
    jones("road o0+u0", new int[] {0, 1});
    jones(TREFOIL + ";road", new int[] {-18, 1, -10, -1, -6, -1, -2, -1, -14, 0});
    jones(ELEVEN, new int[] {-64, -1, -60, 1, -56, -1, -52, 1, -48, -1, -44, 1, -40, -1, -36, 1, -32, -1, -28, 1, -20, 1});
    KnotTown x = townOf("road o0+u0");
    due("bracket of a kink", x.polynomial(0, 3), -1);
    due("bracket of a kink", x.polynomial(0, 0), 0);
    x.mirror();
    due("bracket of the other kink", x.polynomial(0, -3), -1);
    for (int what : new int[] {-1, 2}) due("polynomial(" + what + ", 0)", x.polynomial(what, 0), 0);
    for (int power : new int[] {-100, 100, Integer.MIN_VALUE, Integer.MAX_VALUE}) {
      for (int what = 0; what < 2; what++) due("polynomial(.., " + power + ")", x.polynomial(what, power), 0);
    }
  }

  private static void jones(String text, int[] wanted) {
    KnotTown x = townOf(text);
    for (int power = -99; power <= 99; power++) {
      int number = 0;
      for (int i = 0; i < wanted.length; i += 2) number += wanted[i] == power ? wanted[i + 1] : 0;
      due("polynomial(1, " + power + ") of '" + text + "'", x.polynomial(1, power), number);
    }
  }

  // Promises 23 and 24.
  private static void shakenOut() {
    String[] texts = {TREFOIL, HOPF, "road", "road;road", LOOSE, "road o0+u0;road u3o3-", SLIDING, "road o0+u0o1-u1u2o2+"};
    int[] shaken = {-2, -2, 0, 0, 1, 2, 2, 2};
    for (int i = 0; i < texts.length; i++) {
      KnotTown x = townOf(texts[i]);
      due("shaken of '" + texts[i] + "'", x.shaken(), shaken[i]);
      int beyond = Math.max(0, shaken[i]);
      for (int what = 0; what < 4; what++) due("row beyond", x.row(beyond, what), -2);
      due("row(-1, 0)", x.row(-1, 0), -1);
      due("row(0, 4)", x.row(0, 4), -1);
      due("row(0, -1)", x.row(0, -1), -1);
      due("moves done", x.count(4), 0);
    }
    row("road o0+u0o1-u1u2o2+", new int[] {1, 0, -1, -1, 2, 1, 2, -1});
    row(SLIDING, new int[] {2, 0, 2, -1, 2, 1, 3, -1});
    row("road o0+u0;road u3o3-", new int[] {1, 0, -1, -1, 1, 3, -1, -1});
    unknown("road o5+o6+u8u9o10+o0+u1o2+u3u4u6u7o9+u10;road u0o1+u2o3+o4-u5o7+o8+");
  }

  private static void row(String text, int[] wanted) {
    KnotTown x = townOf(text);
    for (int i = 0; i < wanted.length; i++) due("row(" + i / 4 + ", " + i % 4 + ") of '" + text + "'", x.row(i / 4, i % 4), wanted[i]);
    for (int k = 0; k < wanted.length / 4; k++) {
      boolean done = wanted[4 * k] == 1 ? x.off(wanted[4 * k + 1]) : x.apart(wanted[4 * k + 1], wanted[4 * k + 2]);
      due("the move of the row", done, true);
    }
    due("behind the row", x.count(1), 0);
  }

  private static void unknown(String text) {
    KnotTown x = townOf(text);
    due("shaken of many situations", x.shaken(), -3);
    due("its row", x.row(0, 0), -3);
    due("its row, far on", x.row(500, 3), -3);
    due("its row below 0", x.row(-1, 0), -1);
    due("its row, what 4", x.row(0, 4), -1);
  }

  // Promise 25.
  private static void changesOfBridges() {
    String[] texts = {TREFOIL, EIGHT, WHITEHEAD, HOPF, "road o0+u1o2+u3o4+u0o1+u2o3+u4", "road o0+u1o2+u3;road u0o1+u2o3+", "road", LOOSE,
        "road o7+u8o10+u7o8+u10"};
    int[] many = {1, 1, 1, 1, 2, 2, 0, 0, 1};
    int[] sets = {1, 1, 2, 1, 3, 3, 0, 0, 128};
    for (int i = 0; i < texts.length; i++) {
      KnotTown x = townOf(texts[i]);
      due("changes(0) of '" + texts[i] + "'", x.changes(0), many[i]);
      due("changes(1) of '" + texts[i] + "'", x.changes(1), sets[i]);
      due("changes(2)", x.changes(2), -1);
      due("changes(-1)", x.changes(-1), -1);
      int shaken = x.shaken();
      for (int b = 0; b < 11; b++) if ((sets[i] >> b & 1) == 1) x.change(b);
      due("shaken behind the changes", x.shaken() >= 0, true);
      due("shaken without them", shaken >= 0, many[i] == 0);
      due("changes behind them", x.changes(0), 0);
    }
    due("changes of seven", townOf(SEVEN).changes(0), -1);
    KnotTown x = townOf(TREFOIL);
    for (int i = 0; i < 3; i++) x.twist(0, true, true);
    due("changes of six", x.changes(0), 1);
    x.twist(0, true, true);
    due("changes of seven", x.changes(0), -1);
  }

  // Promises 26 and 27.
  private static void gossips() {
    KnotTown x = townOf(EIGHT);
    due("gossip(0, 0)", x.gossip(0, 0), 1);
    due("gossip(7, 0)", x.gossip(7, 0), 128);
    // Piece 0 lies between bridge 0 (places 0 and 3) and bridge 1 (places 1 and 6).
    due("gossip(0, 1)", x.gossip(0, 1), 1 | 2 | 128 | 1 << 2 | 1 << 3 | 1 << 5 | 1 << 6);
    due("gossip(0, 2)", x.gossip(0, 2), 255);
    due("gossip(0, 60)", x.gossip(0, 60), 255);
    due("gossip(0, 61)", x.gossip(0, 61), -1);
    due("gossip(0, -1)", x.gossip(0, -1), -1);
    due("gossip(8, 1)", x.gossip(8, 1), -1);
    due("gossip(-1, 1)", x.gossip(-1, 1), -1);
    due("heard(0, 0)", x.heard(0, 0), 0);
    due("heard(0, 1)", x.heard(0, 1), 1);
    due("heard(0, 4)", x.heard(0, 4), 2);
    due("heard(0, 8)", x.heard(0, 8), -1);
    due("heard(8, 0)", x.heard(8, 0), -1);
    due("heard(-1, 0)", x.heard(-1, 0), -1);
    due("two roads", townOf(HOPF).heard(0, 3), 1);
    due("roads apart", townOf("road o0+u0;road u3o3-").heard(0, 3), -2);

    rulesOfGossip(x, "bar through=1", new int[] {1 | 2 | 128, 1 | 2 | 4 | 128 | 64});
    rulesOfGossip(x, "bar through=0", new int[] {1 | 1 << 2 | 1 << 3 | 1 << 5 | 1 << 6, 255});
    rulesOfGossip(x, "bar over=0", new int[] {1 | 128 | 1 << 2 | 1 << 3, -1});
    rulesOfGossip(x, "bar bridge=0;bar hand=1", new int[] {1 | 2 | 1 << 5 | 1 << 6, -1});
    rulesOfGossip(x, "bar minute<60", new int[] {1, 1});
    due("heard in the last minute", x.heard(0, 1), 60);
    due("gossip(0, 59)", x.gossip(0, 59), 1);
    due("gossip(0, 60)", x.gossip(0, 60), 1 | 2 | 128 | 1 << 2 | 1 << 3 | 1 << 5 | 1 << 6);
    due("never within 60", x.heard(0, 4), -2);
    rulesOfGossip(x, "bar minute=minute", new int[] {1, 1});
  }

  private static void rulesOfGossip(KnotTown x, String text, int[] behind) {
    int rule = ruleOf(x, text);
    x.force(rule);
    for (int n = 0; n < behind.length; n++) if (behind[n] >= 0) due("gossip(0, " + (n + 1) + ") by '" + text + "'", x.gossip(0, n + 1), behind[n]);
  }

  // How a test is reckoned: gossip on a kink passes from 0 to 1 if the test does not hold.
  private static void ruleValues() {
    String[] hold = {"1=1", "1<2", "1<=1", "2>1", "2>=2", "not 1=2", "[1=1]", "not[1=2 and 1=1]", "1=2 or 1=1", "1=1 or 1=2 and 1=2",
        "not 1=2 and 1=1", "7/2=3", "7%2=1", "0-7/2=0-3", "0-7%2=0-1", "1/0=0", "5%0=0", "2+3*4=14", "20-5-5=10", "40/4/5=2",
        "99999*99999*99999*99999=0-99999*99999*99999*0+99999*99999*99999*99999", "bridges=1", "bridge=0", "hand=1", "minute=1", "from=0", "to=1",
        "99999*99999*99999*99999<0 or 99999*99999*99999*99999>0", "65536*65536*65536*65536=0", "65536*65536*65536*32768<0", "65536*65536*65536*32768%3=0-2", "65536*65536*65536*32768/3*3=65536*65536*65536*32768+2", "through=through", "over=0 or over=1"};
    String[] fail = {"1=2", "1<1", "1<=0", "1>1", "1>=2", "not 1=1", "1=1 and 1=2", "[1=1 or 1=1] and 1=2", "not not 1=2", "1=2 or 1=2", "bridges=0", "hand=0", "from=1", "to=0", "bridge>0"};
    for (String test : hold) due("bar " + test, barred(test), true);
    for (String test : fail) due("bar " + test, barred(test), false);
  }

  private static boolean barred(String test) {
    KnotTown x = townOf("road o0+u0");
    due("rule of " + test, ruleOf(x, "bar " + test), 0);
    x.force(0);
    int got = x.gossip(0, 1);
    due("gossip by " + test, got == 1 || got == 3, true);
    return got == 1;
  }

  // Promises 28 and 29.
  private static void drawsAndFloods() {
    KnotTown x = townOf(TREFOIL);
    due("seed(5)", x.seed(5), 0);
    due("seed(-1)", x.seed(-1), -1);
    due("seed(MIN)", x.seed(Integer.MIN_VALUE), -1);
    due("x", x.count(8), 5);
    due("seed(MAX)", x.seed(Integer.MAX_VALUE), 5);
    due("x", x.count(8), Integer.MAX_VALUE);
    for (int seed : new int[] {0, 1, 12345, Integer.MAX_VALUE}) {
      x.seed(seed);
      for (int p = 0; p <= 100; p += 10) for (int m = 1; m <= 20; m += 19) due("floods", x.floods(m, p, 0, 3), flooded(seed, m, p));
      due("x behind floods", x.count(8), seed);
    }
    due("floods(0, ..)", x.floods(0, 50, 0, 3), -1);
    due("floods(21, ..)", x.floods(21, 50, 0, 3), -1);
    due("floods(.., -1, ..)", x.floods(1, -1, 0, 3), -1);
    due("floods(.., 101, ..)", x.floods(1, 101, 0, 3), -1);
    due("floods(.., 6, 0)", x.floods(1, 50, 6, 0), -1);
    due("floods(.., 0, 6)", x.floods(1, 50, 0, 6), -1);
    due("floods(.., -1, 0)", x.floods(1, 50, -1, 0), -1);
    due("to itself", x.floods(20, 100, 4, 4), 20);
    due("over a bridge", x.floods(20, 100, 1, 2), 20);
    due("over a bridge, back", x.floods(20, 100, 2, 1), 20);
    due("under a bridge", x.floods(20, 100, 0, 1), 0);
    KnotTown y = townOf(HOPF);
    due("of two roads", y.floods(1, 0, 0, 2), -1);
    due("of one road", y.floods(1, 0, 2, 3), 1);
    due("either way", y.floods(1, 100, 2, 3), 1);
  }

  /** From piece 0 of the trefoil to piece 3: under bridges 1 and 0, or back under bridge 2 alone (places 5, 4: under, over). */
  private static int flooded(long x, int m, int p) {
    int often = 0;
    for (int i = 0; i < m; i++) {
      boolean[] flood = new boolean[3];
      for (int b = 0; b < 3; b++) {
        x = (x * 1103515245L + 12345L) % 2147483648L;
        flood[b] = x / 65536 % 100 < p;
      }
      if (!flood[1] && !flood[0] || !flood[2]) often++;
    }
    return often;
  }

  // Promise 30.
  private static void counts() {
    KnotTown x = townOf(WHITEHEAD);
    ruleOf(x, "bar 1=1");
    ruleOf(x, "bar 1=1");
    x.force(1);
    x.seed(17);
    x.twist(0, true, true);
    x.off(5);
    x.feed(1, 2, 3, 4, 5);
    int[] counts = {2, 5, 10, 2, 1, 5, 2, 1, 17, 20, 1, -1};
    for (int what = 0; what < counts.length; what++) due("count(" + what + ")", x.count(what), counts[what]);
    due("count(-1)", x.count(-1), -1);
    due("bows", townOf("road;road").count(5), 2);
    due("bows", townOf(LOOSE).count(5), 3);
    due("bows", townOf(TREFOIL + ";road").count(5), 4);
    due("groups", townOf("road o0+u0;road u3o3-").count(10), 2);
    due("groups", townOf("road;road").count(10), 0);
    due("groups", townOf("road;" + TREFOIL).count(10), 1);
  }

  // Promises 31 and 32.
  private static void images() {
    KnotTown x = new KnotTown();
    due("image(-1)", x.image(-1), -1);
    due("image(4)", x.image(4), -1);
    due("back(-1)", x.back(-1), -1);
    due("back(4)", x.back(4), -1);
    due("back(0)", x.back(0), -1);
    due("image(0)", x.image(0), 0);
    feed(x, LOOSE);
    due("town", x.town(), 2);
    ruleOf(x, "bar 1=1");
    x.force(0);
    x.seed(3);
    x.twist(0, true, true);
    x.off(2);
    due("image(3)", x.image(3), 1);
    due("apart", x.apart(0, 1), true);
    ruleOf(x, "bar 1=2");
    x.force(1);
    x.seed(4);
    x.feed(0, 0, 0, 0, 0);
    due("polynomial", x.polynomial(0, 2), -1);
    due("image(2)", x.image(2), 2);
    due("back(3)", x.back(3), 1);
    int[] counts = {2, 2, 4, 1, 1, 3, 2, 0, 3, 20, 1};
    for (int what = 0; what < counts.length; what++) due("count(" + what + ") behind back", x.count(what), counts[what]);
    due("shaken behind back", x.shaken(), 1);
    x.change(0);
    due("back(3) again", x.back(3), 1);
    due("hand behind back", x.bridge(0, 0), 1);
    due("back(2)", x.back(2), 2);
    due("bridges behind back", x.count(1), 0);
    due("in force behind back", x.count(7), 1);
    due("back(0)", x.back(0), 0);
    due("roads behind back", x.count(0), 0);
    due("in force behind back", x.count(7), -1);
    due("x behind back", x.count(8), 0);
    due("rules stay", x.count(6), 2);
    due("land behind back", x.land(0), -1);
    due("back(1)", x.back(1), -1);
    due("image(3) over", x.image(3), 0);
    due("back(3)", x.back(3), 0);
    due("roads behind back", x.count(0), 0);
  }

  /** No call throws, whatever it is given; what can't be changes nothing. */
  private static void wildArguments(KnotTown x, int a) {
    int bridges = x.count(1);
    for (int b : WILD) {
      x.place(a, b);
      due("bridge", x.bridge(a, b), -1);
      due("polynomial", x.polynomial(a, b), 0);
      x.row(a, b);
      x.gossip(a, b);
      x.heard(a, b);
      due("apart", x.apart(a, b), false);
      due("slide", x.slide(a, b, 0), false);
      due("slide", x.slide(0, a, b), false);
      x.floods(a, b, 0, 1);
      x.floods(5, 5, a, b);
    }
    due("land", x.land(a), -1);
    due("can", x.can(a), -1);
    due("off", x.off(a), false);
    due("change", x.change(a), -1);
    due("changes", x.changes(a), -1);
    due("backToFront", x.backToFront(a), -1);
    due("image", x.image(a), -1);
    due("back", x.back(a), -1);
    x.twist(a, true, true);
    x.colours(a);
    x.count(a);
    x.end(a);
    x.seed(a);
    x.force(a);
    due("bridges", x.count(1), bridges);
  }
}
