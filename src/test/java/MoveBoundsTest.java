/** Promises 7 to 17, with MOVES and BY HAND: each sentence that names a boundary case. */
public final class MoveBoundsTest extends Answers {
  // The trefoil with bridge 0 changed: both its pieces of land with three ends round them can slide.
  private static final String CHANGED = "road u0u1o2+o0-o1+u2";

  public static void main(String[] args) {
    placesAskedFor();
    bowsOfPlaces();
    bridgesAskedFor();
    landAskedFor();
    landWithoutBridges();
    offAtOnce();
    offRoundTheRoad();
    offOfTwoRoads();
    offRefused();
    apartOfTwoEnds();
    apartOverAndUnder();
    apartInAnyOrder();
    apartRefused();
    slideOfThreeEnds();
    slideInAnyOrder();
    slideOfTheLeastEnd();
    slideRefused();
    placesBehind();
    handsStay();
    movesDone();
    changedByHand();
    changeRefused();
    twistBehindAPlace();
    leastFreeNumber();
    twistRefused();
    mirrored();
    backToFront();
    handsOfBothRoads();
    backToFrontRefused();
    movesThatCouldBe();
    setsOfBridges();
    movesAsOfNow();
    behindEachChange();
    finish("the bounds of moves hold");
  }

  private static void placesAskedFor() {
    says("Of a PLACE what 0: the BRIDGE, 1: 1 if over it, else 0, 2: the road (0, 1), 3: the next PLACE of that road, 4: the number of its PIECE's BOW. NONE without these.");
    KnotTown x = townOf(HOPF);
    int[][] places = {{0, 1, 0, 1, 0}, {1, 0, 0, 0, 0}, {0, 0, 1, 3, 1}, {1, 1, 1, 2, 1}};
    for (int p = 0; p < 4; p++) for (int what = 0; what < 5; what++) due("place(" + p + ", " + what + ")", x.place(p, what), places[p][what]);
    for (int p : new int[] {0, 3}) for (int what : new int[] {-1, 5, 6, MIN, MAX}) due("place(" + p + ", " + what + ")", x.place(p, what), -1);
    for (int p : new int[] {-1, 4, 21, 22, 44, MIN, MAX}) for (int what = -1; what <= 5; what++) due("place(" + p + ", " + what + ")", x.place(p, what), -1);
    KnotTown y = townOf(ELEVEN);
    due("the last place", y.place(21, 0), 10);
    due("its bow", y.place(21, 4), 10);
    due("behind the last place", y.place(22, 0), -1);
    for (int what = 0; what < 5; what++) {
      due("place(0, " + what + ") without a town", new KnotTown().place(0, what), -1);
      due("place(0, " + what + ") without passes", townOf("road;road").place(0, what), -1);
    }
  }

  private static void bows(String text, int... wanted) {
    KnotTown x = townOf(text);
    for (int p = 0; p < wanted.length; p++) due("place(" + p + ", 4) of '" + text + "'", x.place(p, 4), wanted[p]);
  }

  private static void bowsOfPlaces() {
    says("the road from one PASS under a BRIDGE to the next one under one, or a whole road that never goes under one");
    bows(TREFOIL, 2, 0, 0, 1, 1, 2);
    bows("road u0o0+", 0, 0);
    bows("road o0+u0", 0, 0);
    bows("road o0+o1-u1u0", 1, 1, 0, 1);
    bows(LOOSE, 0, 0, 1, 2);
    bows("road u0u1;road o0+o1-", 0, 1, 2, 2);
    bows("road o0+u1;road u0o1+", 0, 0, 1, 1);
    bows("road;road u0u1o1+o0-", 0, 1, 1, 1);
    bows("road u0u1o1+o0-;road", 0, 1, 1, 1);
    due("bows", townOf("road").count(5), 1);
    due("bows", townOf("road;road").count(5), 2);
    due("bows", townOf(KINK).count(5), 1);
    due("bows", townOf(KINK + ";road").count(5), 2);
    due("bows", townOf(LOOSE).count(5), 3);
  }

  private static void bridgesAskedFor() {
    says("Of a BRIDGE what 0: HAND (1 +, 0 -), 1: the PLACE over it, 2: the PLACE under it. NONE without it.");
    KnotTown x = townOf("road o10-u0;road o0-u10");
    int[] of10 = {0, 0, 3};
    int[] of0 = {0, 2, 1};
    for (int what = 0; what < 3; what++) {
      due("bridge(10, " + what + ")", x.bridge(10, what), of10[what]);
      due("bridge(0, " + what + ")", x.bridge(0, what), of0[what]);
      for (int b : new int[] {-1, 1, 5, 9, 11, 12, 22, MIN, MAX}) due("bridge(" + b + ", " + what + ")", x.bridge(b, what), -1);
      due("bridge(0, " + what + ") without a town", new KnotTown().bridge(0, what), -1);
      due("bridge(0, " + what + ") of none", townOf("road").bridge(0, what), -1);
    }
    for (int what : new int[] {-1, 3, 4, MIN, MAX}) due("bridge(0, " + what + ")", x.bridge(0, what), -1);
    due("HAND +", townOf(TREFOIL).bridge(2, 0), 1);
    KnotTown y = townOf(KINK);
    y.off(0);
    for (int what = 0; what < 3; what++) due("a bridge that is gone", y.bridge(0, what), -1);
  }

  private static void landAskedFor() {
    says("LAND what 0: how many pieces, 1: the most ends round one, 2: how many have just two, 3: just three. NONE for others, or without a TOWN");
    int[] wanted = {13, 11, 11, 0};
    KnotTown x = townOf(ELEVEN);
    for (int what = 0; what < 4; what++) {
      due("land(" + what + ")", x.land(what), wanted[what]);
      due("land(" + what + ") without a town", new KnotTown().land(what), -1);
    }
    for (int what : new int[] {-1, 4, 5, MIN, MAX}) {
      due("land(" + what + ")", x.land(what), -1);
      due("land(" + what + ") without a town", new KnotTown().land(what), -1);
    }
  }

  private static void landWithoutBridges() {
    says("(0, if there are no BRIDGES)");
    for (String text : new String[] {"road", "road;road"}) {
      KnotTown x = townOf(text);
      for (int what = 0; what < 4; what++) due("land(" + what + ") of '" + text + "'", x.land(what), 0);
      due("land(4) of '" + text + "'", x.land(4), -1);
      due("land(-1) of '" + text + "'", x.land(-1), -1);
    }
    KnotTown y = townOf(KINK);
    due("land(0)", y.land(0), 3);
    y.off(0);
    for (int what = 0; what < 4; what++) due("land(" + what + ") behind off", y.land(what), 0);
  }

  private static void offAtOnce() {
    says("OFF: a BRIDGE over and under which a PIECE leads at once (it begins and ends at it) goes.");
    for (String text : new String[] {"road o0+u0", "road u0o0+", "road o0-u0", "road u0o0-"}) {
      KnotTown x = townOf(text);
      due("off(0) of '" + text + "'", x.off(0), true);
      due("bridges", x.count(1), 0);
      due("roads", x.count(0), 1);
    }
    KnotTown y = townOf("road o0+o1-u1u0");
    due("off(1)", y.off(1), true);
    passes("behind off(1)", y, 0, 1, 0, 0);
    KnotTown z = townOf("road u2o1+u3o2+u1o3+u0o0-");
    for (int b = 1; b <= 3; b++) due("off(" + b + ") of a trefoil", z.off(b), false);
    due("off(0)", z.off(0), true);
    passes("behind off(0)", z, 2, 0, 1, 1, 3, 0, 2, 1, 1, 0, 3, 1);
  }

  private static void offRoundTheRoad() {
    says("behind its last PASS is its first one");
    KnotTown x = townOf("road u10u5o5-o10-");
    due("off(10) round the road", x.off(10), true);
    passes("behind off(10)", x, 5, 0, 5, 1);
    KnotTown y = townOf("road o3+u3;road u0o1+u1o0+");
    due("off(0) round the second road", y.off(0), true);
    passes("behind off(0)", y, 3, 1, 3, 0, 1, 1, 1, 0);
    due("their road", y.place(2, 2), 1);
  }

  private static void offOfTwoRoads() {
    says("A PIECE is the road from a PLACE to the next one of that road");
    KnotTown x = townOf("road u1o0+;road u0o1+");
    due("off(0), its places next to each other on two roads", x.off(0), false);
    due("off(1), at the first and the last place", x.off(1), false);
    due("can(1)", x.can(1), 0);
  }

  private static void offRefused() {
    says("The MOVE OFF: true; false, and nothing happens, if it can't be.");
    KnotTown x = townOf("road o0+u1o2+u0o1+u2o9-u9");
    String before = state(x);
    for (int b : new int[] {0, 1, 2, 3, 8, 10, 11, 12, -1, -2, MIN, MAX}) due("off(" + b + ")", x.off(b), false);
    stays("offs that can't be", x, before);
    due("off(9)", x.off(9), true);
    due("off(9) again", x.off(9), false);
    due("moves done", x.count(4), 1);
    for (int b = -1; b < 12; b++) due("off(" + b + ") without a town", new KnotTown().off(b), false);
    due("off(0) without bridges", townOf("road;road").off(0), false);
  }

  private static void apartOfTwoEnds() {
    says("two unlike BRIDGES go, if a piece of LAND has just two ends round it, of two PIECES between these two");
    KnotTown x = townOf("road o0+o1-u1u0");
    due("apart(0, 1)", x.apart(0, 1), true);
    due("bridges", x.count(1), 0);
    // Here too a piece is over both and another one under both, but no land lies between them alone.
    for (String text : new String[] {"road o0+o1+u1u0", "road o0-o1-u1u0"}) {
      KnotTown y = townOf(text);
      due("apart(0, 1) of '" + text + "'", y.apart(0, 1), false);
      due("can(2)", y.can(2), 0);
    }
    KnotTown z = townOf(KINK);
    due("land with two ends", z.land(2), 1);
    due("apart(0, 0)", z.apart(0, 0), false);
    due("can(2)", z.can(2), 0);
  }

  private static void apartOverAndUnder() {
    says("one of them over both, the other one under both");
    due("apart(0, 1) of a trefoil", townOf(TREFOIL).apart(0, 1), false);
    due("apart(0, 1) of linked roads", townOf(HOPF).apart(0, 1), false);
    KnotTown x = townOf(HOPF);
    x.change(0);
    due("apart(0, 1), one changed", x.apart(0, 1), true);
    KnotTown y = townOf(LOOSE);
    due("apart(0, 1)", y.apart(0, 1), true);
    due("roads", y.count(0), 2);
    KnotTown z = townOf("road u0u1;road o0+o1-");
    due("apart(0, 1), the other road over", z.apart(0, 1), true);
    due("places", z.count(2), 0);
  }

  private static void apartInAnyOrder() {
    says("The MOVE APART (the two in any order): true");
    KnotTown x = townOf(LOOSE);
    due("apart(1, 0)", x.apart(1, 0), true);
    KnotTown y = townOf(LOOSE);
    due("apart(0, 1)", y.apart(0, 1), true);
    KnotTown z = townOf("road o10+o0-;road u10u0");
    due("apart(10, 0)", z.apart(10, 0), true);
  }

  private static void apartRefused() {
    says("false, and nothing happens, if it can't be");
    KnotTown x = townOf("road o0+o1-;road u0u1u2o2+");
    String before = state(x);
    int[][] pairs = {{0, 0}, {1, 1}, {0, 2}, {2, 1}, {2, 2}, {0, 3}, {-1, 0}, {0, -1}, {0, 11}, {11, 1}, {15, 0}, {0, 16}, {MIN, MAX}, {MAX, 0}, {0, MIN}, {-1, -1}};
    for (int[] pair : pairs) due("apart(" + pair[0] + ", " + pair[1] + ")", x.apart(pair[0], pair[1]), false);
    stays("aparts that can't be", x, before);
    due("apart(0, 1)", x.apart(0, 1), true);
    due("apart(0, 1) again", x.apart(0, 1), false);
    due("apart(0, 1) without a town", new KnotTown().apart(0, 1), false);
    due("apart(0, 1) without bridges", townOf("road;road").apart(0, 1), false);
  }

  private static void slideOfThreeEnds() {
    says("three unlike BRIDGES, if a piece of LAND has just three ends round it, of three PIECES, between any two of these one, one of them over both of its BRIDGES, one under both, one over one and under the other one: of each of these PIECES the PASSES at its begin and its end change PLACES.");
    KnotTown x = townOf(SLIDING);
    due("slide(0, 1, 2)", x.slide(0, 1, 2), true);
    due("bridges", x.count(1), 4);
    due("determinant()", x.determinant(), 1);
    due("polynomial(1, 0)", x.polynomial(1, 0), 1);
    due("land(0)", x.land(0), 6);
    due("slide(0, 1, 2) back", x.slide(0, 1, 2), true);
    passes("slid there and back", x, 0, 1, 1, 1, 3, 1, 0, 0, 2, 0, 3, 0, 1, 0, 2, 1);
    due("a trefoil, each piece over one and under one", townOf(TREFOIL).slide(0, 1, 2), false);
    // Land with three ends round it, but of two bridges.
    KnotTown y = townOf("road o0+o1+u1u0");
    due("land with three ends", y.land(3), 2);
    due("can(3)", y.can(3), 0);
    due("slide(0, 1, 1)", y.slide(0, 1, 1), false);
  }

  private static void slideInAnyOrder() {
    says("The MOVE SLIDE (the three in any order): true");
    int[][] orders = {{0, 1, 2}, {0, 2, 1}, {1, 0, 2}, {1, 2, 0}, {2, 0, 1}, {2, 1, 0}};
    for (int[] o : orders) {
      KnotTown x = townOf(CHANGED);
      due("slide(" + o[0] + ", " + o[1] + ", " + o[2] + ")", x.slide(o[0], o[1], o[2]), true);
      passes("behind it", x, 1, 0, 0, 0, 0, 1, 2, 1, 2, 0, 1, 1);
    }
  }

  private static void slideOfTheLeastEnd() {
    says("(If several pieces of LAND are so, that round which the least end lies: by PIECES, of one PIECE that at its begin first.)");
    KnotTown x = townOf(CHANGED);
    due("land with three ends", x.land(3), 2);
    due("can(3)", x.can(3), 1);
    due("slide(0, 1, 2)", x.slide(0, 1, 2), true);
    passes("slid by pieces 0, 2 and 4", x, 1, 0, 0, 0, 0, 1, 2, 1, 2, 0, 1, 1);
    // The same town told from its next place on: now the other land has the least end.
    KnotTown y = townOf("road u1o2+o0-o1+u2u0");
    due("slide(0, 1, 2)", y.slide(0, 1, 2), true);
    passes("slid by pieces 0, 2 and 4", y, 2, 1, 1, 0, 1, 1, 0, 1, 0, 0, 2, 0);
    KnotTown z = townOf("road o4+u4u0u1o2+o0-o1+u2");
    due("slide(0, 1, 2)", z.slide(0, 1, 2), true);
    passes("slid behind a kink", z, 4, 1, 4, 0, 1, 0, 0, 0, 0, 1, 2, 1, 2, 0, 1, 1);
  }

  private static void slideRefused() {
    says("false, and nothing happens, if it can't be");
    KnotTown x = townOf("road u0u1o2+o0-o1+u2o3+u3");
    String before = state(x);
    int[][] threes = {{0, 0, 1}, {0, 1, 0}, {1, 0, 0}, {0, 0, 0}, {0, 1, 3}, {3, 1, 2}, {0, 1, 4}, {-1, 1, 2}, {0, -1, 2}, {0, 1, -1}, {11, 1, 2}, {0, 1, 11},
        {0, 15, 2}, {0, 1, 16}, {MIN, MAX, 0}, {MAX, 1, MIN}, {0, MAX, 2}};
    for (int[] t : threes) due("slide(" + t[0] + ", " + t[1] + ", " + t[2] + ")", x.slide(t[0], t[1], t[2]), false);
    stays("slides that can't be", x, before);
    due("slide(0, 1, 2)", x.slide(0, 1, 2), true);
    due("slide without a town", new KnotTown().slide(0, 1, 2), false);
    due("slide without bridges", townOf("road").slide(0, 1, 2), false);
  }

  private static void placesBehind() {
    says("The PLACES behind those that go are as many less.");
    KnotTown x = townOf("road o2+u2o0+o1-o4+u4;road u5o5+u0u1u3o3+");
    due("apart(0, 1)", x.apart(0, 1), true);
    passes("behind apart", x, 2, 1, 2, 0, 4, 1, 4, 0, 5, 0, 5, 1, 3, 0, 3, 1);
    due("the first road's last place", x.place(3, 2), 0);
    due("the second road's first place", x.place(4, 2), 1);
    due("round the second road", x.place(7, 3), 4);
    due("off(4)", x.off(4), true);
    passes("behind off", x, 2, 1, 2, 0, 5, 0, 5, 1, 3, 0, 3, 1);
    due("the second road's first place", x.place(2, 2), 1);
    due("off(2)", x.off(2), true);
    passes("behind off", x, 5, 0, 5, 1, 3, 0, 3, 1);
    due("the second road's first place", x.place(0, 2), 1);
    due("roads", x.count(0), 2);
    due("off(3)", x.off(3), true);
    passes("behind off", x, 5, 0, 5, 1);
    due("bridge(5, 1)", x.bridge(5, 1), 1);
  }

  private static void handsStay() {
    says("HANDS stay.");
    KnotTown x = townOf("road u0u1o2+o0-o1+u2o3-u3");
    due("off(3)", x.off(3), true);
    due("slide(0, 1, 2)", x.slide(0, 1, 2), true);
    int[] hands = {0, 1, 1};
    for (int b = 0; b < 3; b++) due("bridge(" + b + ", 0)", x.bridge(b, 0), hands[b]);
    due("writhe()", x.writhe(), 1);
    KnotTown y = townOf("road o2-u2o0+o1-;road u0u1u3o3+");
    due("apart(0, 1)", y.apart(0, 1), true);
    due("bridge(2, 0)", y.bridge(2, 0), 0);
    due("bridge(3, 0)", y.bridge(3, 0), 1);
  }

  private static void movesDone() {
    says("MOVES done");
    KnotTown x = townOf("road u0u1o2+o0-o1+u2o3-u3");
    due("off(3)", x.off(3), true);
    due("off(3) again", x.off(3), false);
    due("moves done", x.count(4), 1);
    due("slide(0, 1, 2)", x.slide(0, 1, 2), true);
    due("slide(0, 1, 3)", x.slide(0, 1, 3), false);
    due("moves done", x.count(4), 2);
    due("slide(0, 1, 2)", x.slide(0, 1, 2), true);
    due("apart(0, 1)", x.apart(0, 1), true);
    due("apart(0, 1) again", x.apart(0, 1), false);
    due("moves done", x.count(4), 4);
    x.twist(0, true, true);
    x.change(0);
    x.mirror();
    x.backToFront(0);
    due("by hand no moves are done", x.count(4), 4);
  }

  private static void changedByHand() {
    says("what goes over it goes under it then, and its HAND is the other one");
    KnotTown x = townOf(TREFOIL);
    due("change(2)", x.change(2), 0);
    due("over it", x.bridge(2, 1), 5);
    due("under it", x.bridge(2, 2), 2);
    due("hand", x.bridge(2, 0), 0);
    due("others stay", x.bridge(1, 0), 1);
    due("writhe()", x.writhe(), 1);
    due("shaken()", x.shaken() > 0, true);
    due("change(2)", x.change(2), 1);
    passes("changed twice", x, 0, 1, 1, 0, 2, 1, 0, 0, 1, 1, 2, 0);
    due("shaken()", x.shaken(), -2);
    due("change(10)", townOf("road o10-u10").change(10), 1);
  }

  private static void changeRefused() {
    says("NONE, and nothing happens, without it.");
    KnotTown x = townOf(TREFOIL);
    String before = state(x);
    for (int b : new int[] {3, 10, 11, 12, -1, -2, MIN, MAX}) due("change(" + b + ")", x.change(b), -1);
    stays("changes of none", x, before);
    due("change(0) without a town", new KnotTown().change(0), -1);
    due("change(0) without bridges", townOf("road").change(0), -1);
    KnotTown y = townOf(KINK);
    y.off(0);
    due("change(0) behind off", y.change(0), -1);
  }

  private static void twistBehindAPlace() {
    says("two PASSES of a new BRIDGE (the least NUMBER that is free) come behind it, first over it or under it, with a HAND");
    boolean[] both = {true, false};
    for (boolean over : both) {
      for (boolean plus : both) {
        for (int p = 0; p < 4; p++) {
          KnotTown x = townOf(HOPF);
          due("twist(" + p + ", " + over + ", " + plus + ")", x.twist(p, over, plus), 2);
          int[] passes = new int[12];
          int[] old = {0, 1, 1, 0, 0, 0, 1, 1};
          System.arraycopy(old, 0, passes, 0, 2 * p + 2);
          passes[2 * p + 2] = 2;
          passes[2 * p + 3] = over ? 1 : 0;
          passes[2 * p + 4] = 2;
          passes[2 * p + 5] = over ? 0 : 1;
          System.arraycopy(old, 2 * p + 2, passes, 2 * p + 6, 6 - 2 * p);
          passes("behind a twist", x, passes);
          due("hand", x.bridge(2, 0), plus ? 1 : 0);
          due("road", x.place(p + 1, 2), p < 2 ? 0 : 1);
          due("road", x.place(3, 2), p < 2 ? 0 : 1);
          due("the last place's next", x.place(5, 3), p < 2 ? 4 : 2);
          due("land", x.land(0), 5);
          due("off(2)", x.off(2), true);
        }
      }
    }
    KnotTown y = townOf("road;" + KINK);
    due("twist on a second road", y.twist(1, true, false), 1);
    passes("behind it", y, 0, 1, 0, 0, 1, 1, 1, 0);
    due("its road", y.place(3, 2), 1);
  }

  private static void leastFreeNumber() {
    says("(the least NUMBER that is free)");
    KnotTown x = townOf("road o1+u1o3+u3");
    int[] free = {0, 2, 4, 5, 6, 7, 8, 9, 10};
    for (int b : free) due("twist", x.twist(0, true, true), b);
    due("bridges", x.count(1), 11);
    due("a twist too many", x.twist(0, true, true), -1);
    due("off(10)", x.off(10), true);
    due("off(2)", x.off(2), true);
    due("twist", x.twist(0, true, true), 2);
    due("twist", x.twist(0, true, true), 10);
  }

  private static void twistRefused() {
    says("A TWIST behind a PLACE: the new BRIDGE; NONE, and nothing happens, without these, or if there are 11.");
    KnotTown x = townOf(ELEVEN);
    String before = state(x);
    for (int p : new int[] {0, 10, 21, 22, -1, MIN, MAX}) due("twist(" + p + ") of 11", x.twist(p, true, true), -1);
    stays("twists of 11 bridges", x, before);
    KnotTown y = townOf(HOPF);
    before = state(y);
    for (int p : new int[] {4, 5, 21, 22, -1, -2, MIN, MAX}) due("twist(" + p + ")", y.twist(p, false, true), -1);
    stays("twists behind no place", y, before);
    due("twist without a town", new KnotTown().twist(0, true, true), -1);
    says("(Of a road without PASSES there is no PLACE.)");
    due("twist of a road without passes", townOf("road").twist(0, true, true), -1);
    due("twist of roads without passes", townOf("road;road").twist(0, true, true), -1);
    KnotTown z = townOf(KINK);
    z.off(0);
    due("twist behind off", z.twist(0, true, true), -1);
    due("bridges", z.count(1), 0);
  }

  private static void mirrored() {
    says("MIRROR: how many BRIDGES; NONE without a TOWN.");
    due("mirror() without a town", new KnotTown().mirror(), -1);
    due("mirror() without bridges", townOf("road").mirror(), 0);
    due("mirror() without bridges", townOf("road;road").mirror(), 0);
    due("mirror() of all", townOf(ELEVEN).mirror(), 11);
    KnotTown x = townOf("road o3+u3o10-u10");
    due("mirror()", x.mirror(), 2);
    passes("behind it", x, 3, 0, 3, 1, 10, 0, 10, 1);
    due("bridge(3, 0)", x.bridge(3, 0), 0);
    due("bridge(10, 0)", x.bridge(10, 0), 1);
  }

  private static void backToFront() {
    says("BACK TO FRONT: of a road the PASSES stand the other way round");
    KnotTown x = townOf(WHITEHEAD);
    due("backToFront(0)", x.backToFront(0), 6);
    passes("behind it", x, 2, 0, 1, 1, 4, 0, 3, 1, 1, 0, 0, 1, 0, 0, 2, 1, 3, 0, 4, 1);
    due("backToFront(1)", x.backToFront(1), 4);
    passes("behind it", x, 2, 0, 1, 1, 4, 0, 3, 1, 1, 0, 0, 1, 4, 1, 3, 0, 2, 1, 0, 0);
    due("land", x.land(0), 7);
    due("backToFront(1) of 22 passes", townOf("road;" + ELEVEN).backToFront(1), 22);
    due("backToFront(0) without passes", townOf("road;" + ELEVEN).backToFront(0), 0);
    due("backToFront(1) without passes", townOf("road;road").backToFront(1), 0);
  }

  private static void handsOfBothRoads() {
    says("(HANDS of BRIDGES of both roads change then; not of those of one alone)");
    for (int road = 0; road < 2; road++) {
      KnotTown x = townOf(WHITEHEAD);
      x.backToFront(road);
      // Bridge 1 is of the first road alone.
      int[] hands = {0, 0, 0, 1, 1};
      for (int b = 0; b < 5; b++) due("bridge(" + b + ", 0)", x.bridge(b, 0), hands[b]);
    }
    KnotTown y = townOf(HOPF + "u2o2-");
    y.backToFront(0);
    due("a bridge of the other road alone", y.bridge(2, 0), 0);
    due("a bridge of both", y.bridge(0, 0), 0);
    KnotTown z = townOf(TREFOIL);
    z.backToFront(0);
    due("of one road alone", z.writhe(), 3);
  }

  private static void backToFrontRefused() {
    says("BACK TO FRONT of a road: how many PASSES; NONE without it.");
    KnotTown x = townOf(TREFOIL);
    String before = state(x);
    for (int road : new int[] {1, 2, -1, MIN, MAX}) due("backToFront(" + road + ")", x.backToFront(road), -1);
    stays("roads that are none", x, before);
    for (int road : new int[] {2, 3, -1}) due("backToFront(" + road + ") of two", townOf(HOPF).backToFront(road), -1);
    for (int road = -1; road < 3; road++) due("backToFront(" + road + ") without a town", new KnotTown().backToFront(road), -1);
  }

  private static void movesThatCouldBe() {
    says("MOVES that could be now, of kind 1, 2, 3: how many (sets of BRIDGES); NONE for others, or without a TOWN.");
    for (int kind : new int[] {0, 4, -1, 5, MIN, MAX}) {
      due("can(" + kind + ")", townOf(TREFOIL).can(kind), -1);
      due("can(" + kind + ") without a town", new KnotTown().can(kind), -1);
    }
    for (int kind = 1; kind <= 3; kind++) {
      due("can(" + kind + ") without a town", new KnotTown().can(kind), -1);
      due("can(" + kind + ") without bridges", townOf("road;road").can(kind), 0);
      due("can(" + kind + ") of a trefoil", townOf(TREFOIL).can(kind), 0);
    }
    StringBuilder kinks = new StringBuilder("road");
    for (int b = 0; b < 11; b++) kinks.append(" o").append(b).append("+u").append(b);
    due("can(1) of eleven", townOf(kinks.toString()).can(1), 11);
    due("can(2) of eleven", townOf(kinks.toString()).can(2), 0);
  }

  private static void setsOfBridges() {
    says("how many (sets of BRIDGES)");
    due("one set, two pieces", townOf(KINK).can(1), 1);
    due("one set, four pieces of land", townOf(LOOSE).can(2), 1);
    due("its land with two ends", townOf(LOOSE).land(2), 4);
    due("one set, two pieces of land", townOf(CHANGED).can(3), 1);
    due("two sets", townOf(CHANGED).can(2), 2);
    due("four sets", townOf(SLIDING).can(3), 4);
    due("two sets", townOf(SLIDING).can(2), 2);
  }

  private static void movesAsOfNow() {
    says("MOVES that could be now");
    KnotTown x = townOf(TREFOIL);
    due("can(2)", x.can(2), 0);
    x.change(0);
    due("can(2) behind a change", x.can(2), 2);
    due("can(3) behind a change", x.can(3), 1);
    x.twist(0, true, true);
    due("can(1) behind a twist", x.can(1), 1);
    x.image(0);
    x.off(3);
    due("can(1) behind off", x.can(1), 0);
    x.back(0);
    due("can(1) behind back", x.can(1), 1);
    due("land(0) behind back", x.land(0), 6);
  }

  /** What was asked ahead of a change does not stand behind it. */
  private static void behindEachChange() {
    says("BY HAND a BRIDGE is changed");
    for (int kind = 0; kind < 8; kind++) {
      KnotTown x = townOf("road u0u1o2+o0-o1+u2o3-u3;road");
      x.image(0);
      if (kind == 7) x.change(3);
      x.shaken();
      x.row(0, 1);
      x.changes(0);
      x.polynomial(0, 0);
      x.can(1);
      boolean done = switch (kind) {
        case 0 -> x.change(1) == 0;
        case 1 -> x.twist(2, false, true) == 4;
        case 2 -> x.mirror() == 4;
        case 3 -> x.backToFront(0) == 8;
        case 4 -> x.off(3);
        case 5 -> x.apart(0, 1);
        case 6 -> x.slide(0, 1, 2);
        default -> x.back(0) == 0;
      };
      due("change " + kind, done, true);
      asToldAnew("change " + kind, x);
    }
    KnotTown z = townOf(TREFOIL);
    due("polynomial(1, -16)", z.polynomial(1, -16), -1);
    z.mirror();
    due("polynomial(1, -16) behind mirror()", z.polynomial(1, -16), 0);
    asToldAnew("mirror()", z);
    for (int road = 0; road < 2; road++) {
      KnotTown y = townOf("road o0+u1o2+u3;road u0o1+u2o3+o4+u4");
      y.shaken();
      y.changes(0);
      y.polynomial(0, 0);
      y.backToFront(road);
      asToldAnew("backToFront(" + road + ")", y);
    }
  }
}
