/** Promises 26 to 32, with GOSSIP, DRAWS and IMAGES: each sentence that names a boundary case. */
public final class GossipBoundsTest extends Answers {
  public static void main(String[] args) {
    minutes();
    noSuchPieces();
    bothEndsOfAPiece();
    throughABridge();
    eachMinute();
    barred();
    heardFirst();
    heardNever();
    heardWithout();
    seeds();
    drawsGoRound();
    timesAndPercents();
    floodedBelowP();
    eitherWay();
    toItself();
    floodsWithout();
    xIsAsItWas();
    floodsByNumbers();
    counts();
    countsWithoutATown();
    imagesMade();
    imagesHold();
    rulesAndTapeStay();
    imagesOverImages();
    backRefused();
    imagesOfNoTown();
    finish("the bounds of gossip, floods and images hold");
  }

  private static void minutes() {
    says("PIECES that have it behind n minutes (0 to 60), as bits; NONE without these.");
    KnotTown x = townOf(TREFOIL);
    for (int p = 0; p < 6; p++) due("gossip(" + p + ", 0)", x.gossip(p, 0), 1 << p);
    due("gossip(0, 1)", x.gossip(0, 1), 63);
    due("gossip(0, 59)", x.gossip(0, 59), 63);
    due("gossip(0, 60)", x.gossip(0, 60), 63);
    for (int n : new int[] {61, 62, 1000, -1, -2, MIN, MAX}) due("gossip(0, " + n + ")", x.gossip(0, n), -1);
    due("gossip(21, 0)", townOf(ELEVEN).gossip(21, 0), 1 << 21);
    due("gossip(21, 60)", townOf(ELEVEN).gossip(21, 60), (1 << 22) - 1);
    KnotTown y = ruled(TREFOIL, "bar minute<60");
    due("gossip(0, 59), bar minute<60", y.gossip(0, 59), 1);
    due("gossip(0, 60), bar minute<60", y.gossip(0, 60), 63);
  }

  private static void noSuchPieces() {
    says("NONE without these.");
    KnotTown x = townOf(TREFOIL);
    for (int p : new int[] {6, 7, 21, 22, 31, 32, 38, -1, -2, MIN, MAX}) for (int n : new int[] {0, 1, 60}) due("gossip(" + p + ", " + n + ")", x.gossip(p, n), -1);
    due("gossip(0, 0) without a town", new KnotTown().gossip(0, 0), -1);
    due("gossip(0, 0) without passes", townOf("road;road").gossip(0, 0), -1);
    due("gossip(22, 0)", townOf(ELEVEN).gossip(22, 0), -1);
  }

  private static void bothEndsOfAPiece() {
    says("over (or under) the BRIDGE at the end of the PIECE to the next one along, at its begin to the one ahead");
    KnotTown x = ruled(WHITEHEAD, "bar through=1");
    int[] along = {0b100011, 0b000111, 0b001110, 0b011100, 0b111000, 0b110001, 0b1011 << 6, 0b0111 << 6, 0b1110 << 6, 0b1101 << 6};
    for (int p = 0; p < 10; p++) due("gossip(" + p + ", 1) along the road", x.gossip(p, 1), along[p]);
    due("gossip(0, 2) along the road", x.gossip(0, 2), 0b110111);
    due("gossip(0, 3) along the road", x.gossip(0, 3), 0b111111);
    due("gossip(0, 60) along the road", x.gossip(0, 60), 0b111111);
    due("gossip(6, 60) along the road", x.gossip(6, 60), 0b1111 << 6);
    KnotTown y = ruled(ELEVEN, "bar through=1");
    due("gossip(0, 10) round 22 pieces", y.gossip(0, 10), (1 << 22) - 1 - (1 << 11));
    due("heard(0, 11) round 22 pieces", y.heard(0, 11), 11);
  }

  private static void throughABridge() {
    says("and THROUGH: to both PIECES of the other PASS of that BRIDGE");
    KnotTown x = ruled(WHITEHEAD, "bar through=0");
    // Piece 0 meets bridge 0, whose other pass is place 6 (pieces 6 and 9), and bridge 1, whose other pass is place 4 (pieces 4 and 3).
    due("gossip(0, 1) through", x.gossip(0, 1), 1 | 1 << 6 | 1 << 9 | 1 << 4 | 1 << 3);
    // Piece 6 meets bridge 0, whose other pass is place 0 (pieces 0 and 5), and bridge 2, whose other pass is place 5 (pieces 5 and 4).
    due("gossip(6, 1) through", x.gossip(6, 1), 1 << 6 | 1 | 1 << 5 | 1 << 4);
    due("gossip(0, 60) of roads apart", townOf(TWO_GROUPS).gossip(0, 60), 3);
    due("gossip(2, 60) of roads apart", townOf(TWO_GROUPS).gossip(2, 60), 12);
    due("gossip(0, 1) of a kink", ruled(KINK, "bar through=0").gossip(0, 1), 3);
  }

  private static void eachMinute() {
    says("in each minute it passes from all PIECES that have it to others");
    KnotTown x = ruled("road o0+u0o1+u1o2+u2o3+u3", "bar through=1");
    int[] have = {0b00000001, 0b10000011, 0b11000111, 0b11101111, 0b11111111, 0b11111111};
    for (int n = 0; n < have.length; n++) due("gossip(0, " + n + ")", x.gossip(0, n), have[n]);
    // What comes in a minute does not pass on in it.
    KnotTown y = ruled("road o0+u0o1+u1o2+u2o3+u3", "bar through=1 or minute=2");
    int[] late = {0b00000001, 0b10000011, 0b10000011, 0b11000111, 0b11101111, 0b11111111};
    for (int n = 0; n < late.length; n++) due("gossip(0, " + n + "), bar minute=2", y.gossip(0, n), late[n]);
  }

  private static void barred() {
    says("each if no bar TEST of the RULE IN FORCE holds (FROM comes to it over it, if the PASS at which they meet is over)");
    KnotTown x = townOf(TREFOIL);
    ruleOf(x, "bar 1=1");
    ruleOf(x, "bar over=1;bar through=1");
    due("a rule not in force", x.gossip(0, 1), 63);
    x.force(0);
    due("all barred", x.gossip(0, 60), 1);
    x.force(1);
    // Piece 0 comes over at its begin and under at its end.
    due("barred over and through", x.gossip(0, 1), 0b11);
    due("barred over and through", x.gossip(0, 60), 0b11);
    due("from piece 1, under at its begin", x.gossip(1, 1), 0b11);
    x.force(-1);
    due("none in force", x.gossip(0, 1), 63);
  }

  private static void heardFirst() {
    says("the first minute behind which another PIECE has it (itself: 0)");
    KnotTown x = ruled("road o0+u0o1+u1o2+u2o3+u3", "bar through=1");
    int[] first = {0, 1, 2, 3, 4, 3, 2, 1};
    for (int p = 0; p < 8; p++) due("heard(0, " + p + ")", x.heard(0, p), first[p]);
    for (int a = 0; a < 8; a++) {
      for (int b = 0; b < 8; b++) {
        int way = Math.abs(a - b);
        due("heard(" + a + ", " + b + ")", x.heard(a, b), Math.min(way, 8 - way));
      }
    }
    due("itself, all barred", ruled(KINK, "bar 1=1").heard(1, 1), 0);
    due("heard(0, 1) in the first minute", townOf(KINK).heard(0, 1), 1);
  }

  private static void heardNever() {
    says("-2: never within 60");
    due("bar minute<60", ruled(KINK, "bar minute<60").heard(0, 1), 60);
    due("bar minute<=60", ruled(KINK, "bar minute<=60").heard(0, 1), -2);
    due("bar minute<59", ruled(KINK, "bar minute<59").heard(0, 1), 59);
    due("bar 1=1", ruled(KINK, "bar 1=1").heard(0, 1), -2);
    due("roads apart", townOf(TWO_GROUPS).heard(0, 2), -2);
    due("along the road alone", ruled(HOPF, "bar through=1").heard(0, 2), -2);
    KnotTown x = ruled("road o0+u0o1+u1o2+u2o3+u3", "bar through=1 or minute<58");
    int[] first = {0, 58, 59, 60, -2, 60, 59, 58};
    for (int p = 0; p < 8; p++) due("heard(0, " + p + ")", x.heard(0, p), first[p]);
  }

  private static void heardWithout() {
    says("NONE without these.");
    KnotTown x = townOf(TREFOIL);
    for (int p : new int[] {6, 7, 22, 32, -1, MIN, MAX}) {
      due("heard(0, " + p + ")", x.heard(0, p), -1);
      due("heard(" + p + ", 0)", x.heard(p, 0), -1);
      due("heard(" + p + ", " + p + ")", x.heard(p, p), -1);
    }
    due("heard(5, 5)", x.heard(5, 5), 0);
    due("heard(0, 0) without a town", new KnotTown().heard(0, 0), -1);
    due("heard(0, 0) without passes", townOf("road").heard(0, 0), -1);
  }

  private static void seeds() {
    says("x becomes a number: what it was; NONE, and nothing happens, below 0.");
    KnotTown x = new KnotTown();
    due("seed(MAX), 0 at first", x.seed(MAX), 0);
    for (int n : new int[] {-1, -2, MIN, MIN + 1}) {
      due("seed(" + n + ")", x.seed(n), -1);
      due("x", x.count(8), MAX);
    }
    due("seed(0)", x.seed(0), MAX);
    due("seed(1)", x.seed(1), 0);
    due("x", x.count(8), 1);
  }

  /** The same draws by the document's words, in numbers that have room enough. */
  private static int timesDry(long x, int m, int p) {
    int dry = 0;
    for (int i = 0; i < m; i++) {
      x = (x * 1103515245L + 12345L) % 2147483648L;
      boolean one = x / 65536L % 100L < p;
      x = (x * 1103515245L + 12345L) % 2147483648L;
      boolean two = x / 65536L % 100L < p;
      dry += one && two ? 0 : 1;
    }
    return dry;
  }

  // Two loose roads: from piece 2 to piece 3, under bridge 1 or under bridge 0.
  private static void drawsGoRound() {
    says("x (0 to 2147483647; 0 at first) becomes x * 1103515245 + 12345, of 2147483648 the rest; a DRAW is x / 65536");
    for (int seed : new int[] {0, 1, 2, 65535, 65536, 12345, 1103515245, 2147483646, MAX}) {
      KnotTown x = townOf(LOOSE);
      x.seed(seed);
      for (int p = 0; p <= 100; p += 4) due("floods(20, " + p + ", 2, 3), x " + seed, x.floods(20, p, 2, 3), timesDry(seed, 20, p));
      for (int m = 1; m <= 20; m++) due("floods(" + m + ", 60, 2, 3), x " + seed, x.floods(m, 60, 2, 3), timesDry(seed, m, 60));
    }
  }

  private static void timesAndPercents() {
    says("FLOODS m times (1 to 20)");
    KnotTown x = townOf(TREFOIL);
    for (int m : new int[] {0, -1, 21, 22, MIN, MAX}) due("floods(" + m + ", 0, 0, 1)", x.floods(m, 0, 0, 1), -1);
    due("floods(1, 0, 0, 1)", x.floods(1, 0, 0, 1), 1);
    due("floods(20, 0, 0, 1)", x.floods(20, 0, 0, 1), 20);
    says("below p (0 to 100)");
    for (int p : new int[] {-1, -2, 101, 102, MIN, MAX}) due("floods(1, " + p + ", 0, 1)", x.floods(1, p, 0, 1), -1);
    due("floods(20, 0, 0, 1)", x.floods(20, 0, 0, 1), 20);
    due("floods(20, 100, 0, 1)", x.floods(20, 100, 0, 1), 0);
  }

  private static void floodedBelowP() {
    says("each BRIDGE (by NUMBERS) is flooded, if a DRAW mod 100 is below p");
    // From x = 0 the first draws are 0, 21468 and 9988: mod 100 0, 68 and 88.
    KnotTown x = townOf(TREFOIL);
    due("floods(1, 68, 0, 1): bridge 0 alone", x.floods(1, 68, 0, 1), 1);
    due("floods(1, 69, 0, 1): bridges 0 and 1", x.floods(1, 69, 0, 1), 0);
    due("floods(1, 1, 2, 3): bridge 0 alone", x.floods(1, 1, 2, 3), 1);
    KnotTown y = townOf("road u0o0+u1o1+");
    due("floods(1, 0, 3, 1): none", y.floods(1, 0, 3, 1), 1);
    due("floods(1, 68, 3, 1): bridge 0 alone", y.floods(1, 68, 3, 1), 1);
    due("floods(1, 69, 3, 1): both", y.floods(1, 69, 3, 1), 0);
    due("floods(1, 69, 0, 1): over bridge 0", y.floods(1, 69, 0, 1), 1);
  }

  private static void eitherWay() {
    says("who goes under it can't pass it along the road: how often one gets along one road from a PIECE to another one of it (either way; to itself at once)");
    KnotTown x = townOf("road o0+o1-u1u0");
    // All flooded: places 2 and 3 are shut, so pieces 3, 0 and 1 hang together, and piece 2 is alone.
    int[] group = {0, 0, 1, 0};
    for (int a = 0; a < 4; a++) for (int b = 0; b < 4; b++) due("floods(7, 100, " + a + ", " + b + ")", x.floods(7, 100, a, b), group[a] == group[b] ? 7 : 0);
    KnotTown y = townOf(LOOSE);
    due("a road over all", y.floods(20, 100, 0, 1), 20);
    due("a road under all", y.floods(20, 100, 2, 3), 0);
    due("a road under all, dry", y.floods(20, 0, 2, 3), 20);
    KnotTown z = townOf(KINK);
    due("over it, the other way", z.floods(20, 100, 0, 1), 20);
    due("over it", z.floods(20, 100, 1, 0), 20);
  }

  private static void toItself() {
    says("to itself at once");
    for (String text : new String[] {TREFOIL, LOOSE, KINK}) {
      KnotTown x = townOf(text);
      int last = x.count(2) - 1;
      due("floods(20, 100, 0, 0)", x.floods(20, 100, 0, 0), 20);
      due("floods(1, 100, last, last)", x.floods(1, 100, last, last), 1);
    }
  }

  private static void floodsWithout() {
    says("FLOODS: how often; NONE without these (PIECES of two roads, too).");
    KnotTown x = townOf(HOPF);
    for (int a = 0; a < 2; a++) {
      for (int b = 2; b < 4; b++) {
        due("floods(1, 0, " + a + ", " + b + ")", x.floods(1, 0, a, b), -1);
        due("floods(1, 0, " + b + ", " + a + ")", x.floods(1, 0, b, a), -1);
      }
    }
    due("floods(1, 0, 0, 1)", x.floods(1, 0, 0, 1), 1);
    due("floods(1, 0, 2, 3)", x.floods(1, 0, 2, 3), 1);
    for (int p : new int[] {4, 5, 22, -1, MIN, MAX}) {
      due("floods(1, 0, 0, " + p + ")", x.floods(1, 0, 0, p), -1);
      due("floods(1, 0, 2, " + p + ")", x.floods(1, 0, 2, p), -1);
      due("floods(1, 0, " + p + ", 0)", x.floods(1, 0, p, 0), -1);
      due("floods(1, 0, " + p + ", " + p + ")", x.floods(1, 0, p, p), -1);
    }
    due("floods without a town", new KnotTown().floods(1, 0, 0, 0), -1);
    due("floods without passes", townOf("road;road").floods(1, 0, 0, 0), -1);
  }

  private static void xIsAsItWas() {
    says("(x goes on; behind it x is as it was)");
    KnotTown x = townOf(LOOSE);
    for (int seed : new int[] {0, 7, MAX}) {
      x.seed(seed);
      int once = x.floods(20, 60, 2, 3);
      due("x behind floods", x.count(8), seed);
      due("floods again", x.floods(20, 60, 2, 3), once);
    }
    // Were x not to go on, all times would be alike.
    x.seed(1);
    int often = x.floods(20, 60, 2, 3);
    due("times unlike one another", often > 0 && often < 20, true);
  }

  private static void floodsByNumbers() {
    says("each BRIDGE (by NUMBERS) is flooded");
    // Bridge 1 comes first along the road, but the first draw is bridge 0's; a draw is made of no bridge that is not there.
    KnotTown x = townOf("road u1u0;road o1+o0-");
    due("floods(1, 1, 0, 1)", x.floods(1, 1, 0, 1), 1);
    KnotTown y = townOf("road u10o10-u3o3+");
    // Place 0 is under bridge 10, whose draw is the second one (68), place 2 under bridge 3, whose draw is the first one (0).
    due("floods(1, 68, 3, 1)", y.floods(1, 68, 3, 1), 1);
    due("floods(1, 69, 3, 1)", y.floods(1, 69, 3, 1), 0);
    due("floods(1, 68, 3, 0)", y.floods(1, 68, 3, 0), 1);
    due("floods(1, 68, 1, 2)", y.floods(1, 68, 1, 2), 1);
  }

  private static void counts() {
    says("What 0: roads, 1: BRIDGES, 2: PLACES, 3: BRIDGES with HAND +, 4: MOVES done, 5: BOWS, 6: RULES, 7: the RULE IN FORCE (NONE), 8: x, 9: bytes of the TAPE, 10: groups that hang together. NONE for others.");
    KnotTown x = ruled(WHITEHEAD, "bar 1=1");
    ruleOf(x, "bar 1=1");
    x.force(1);
    x.seed(17);
    x.twist(0, true, true);
    x.off(5);
    x.feed(1, 2, 3, 4, 5);
    int[] wanted = {2, 5, 10, 2, 1, 5, 2, 1, 17, 20, 1};
    for (int what = 0; what < wanted.length; what++) due("count(" + what + ")", x.count(what), wanted[what]);
    for (int what : new int[] {-1, -2, 11, 12, MIN, MAX}) due("count(" + what + ")", x.count(what), -1);
    due("hands + of none", townOf("road o0-u0").count(3), 0);
    due("hands + of all", townOf(ELEVEN).count(3), 11);
    due("bridges of all", townOf(ELEVEN).count(1), 11);
    due("bows of all", townOf(ELEVEN).count(5), 11);
  }

  private static void countsWithoutATown() {
    says("NONE for others.");
    KnotTown x = new KnotTown();
    for (int what : new int[] {-1, 11, MIN, MAX}) due("count(" + what + ") without a town", x.count(what), -1);
    KnotTown y = townOf("road;road");
    int[] wanted = {2, 0, 0, 0, 0, 2, 0, -1, 0, 0, 0};
    for (int what = 0; what < wanted.length; what++) due("count(" + what + ") without bridges", y.count(what), wanted[what]);
  }

  private static void imagesMade() {
    says("An IMAGE is made: MOVES done; NONE without it.");
    KnotTown x = townOf("road o0+u0o1+u1");
    for (int k = 0; k < 4; k++) due("image(" + k + ")", x.image(k), 0);
    x.off(0);
    due("image(0)", x.image(0), 1);
    x.off(1);
    due("image(3)", x.image(3), 2);
    for (int k : new int[] {-1, -2, 4, 5, MIN, MAX}) due("image(" + k + ")", x.image(k), -1);
    due("back(0)", x.back(0), 1);
    due("bridges", x.count(1), 1);
    due("back(1)", x.back(1), 0);
    due("bridges", x.count(1), 2);
    due("back(3)", x.back(3), 2);
    due("bridges", x.count(1), 0);
    due("back(2)", x.back(2), 0);
    due("bridges", x.count(1), 2);
  }

  private static void imagesHold() {
    says("All is as in an IMAGE (the RULE IN FORCE, too): MOVES done");
    KnotTown x = ruled("road u0u1o2+o0-o1+u2o3-u3", "bar over=1");
    x.seed(31);
    x.off(3);
    String before = state(x);
    due("image(2)", x.image(2), 1);
    x.slide(0, 1, 2);
    x.change(1);
    x.twist(0, true, false);
    x.mirror();
    x.backToFront(0);
    x.seed(32);
    x.force(-1);
    due("all is other", state(x).equals(before), false);
    due("back(2)", x.back(2), 1);
    stays("back(2)", x, before);
    x.off(0);
    x.apart(0, 1);
    due("back(2) again", x.back(2), 1);
    stays("back(2) again", x, before);
  }

  private static void rulesAndTapeStay() {
    says("all but the RULES and the TAPE, as it is; gone back to, it is as it was (these stay)");
    KnotTown x = ruled(KINK, "bar 1=1");
    x.image(0);
    ruleOf(x, "bar 1=2");
    x.force(1);
    x.feed(0x726f6164, 0x3b726f61, 0x64202020, 0x20202020, 0x20202020);
    due("back(0)", x.back(0), 0);
    due("rules", x.count(6), 2);
    due("in force", x.count(7), 0);
    due("gossip(0, 5)", x.gossip(0, 5), 1);
    due("tape", x.count(9), 20);
    due("force(1)", x.force(1), 0);
    due("gossip(0, 5)", x.gossip(0, 5), 3);
    due("the tape as a town", x.town(), 0);
    due("roads", x.count(0), 2);
    due("back(0) behind another town", x.back(0), 0);
    due("bridges", x.count(1), 1);
    due("in force", x.count(7), 0);
    due("the tape is empty still", x.count(9), 0);
  }

  private static void imagesOverImages() {
    says("IMAGES 0 to 3");
    KnotTown x = townOf(KINK);
    x.image(0);
    x.twist(0, true, true);
    x.image(1);
    x.twist(0, true, true);
    x.image(2);
    x.twist(0, true, true);
    x.image(3);
    for (int k = 0; k < 4; k++) {
      due("back(" + k + ")", x.back(k), 0);
      due("bridges", x.count(1), k + 1);
    }
    due("an image over another", x.image(0), 0);
    due("back(1)", x.back(1), 0);
    due("bridges", x.count(1), 2);
    due("back(0)", x.back(0), 0);
    due("bridges", x.count(1), 4);
    x.change(0);
    x.back(0);
    due("what is done behind back is not in the image", x.bridge(0, 0), 1);
  }

  private static void backRefused() {
    says("NONE, and nothing happens, if it was never made, or without it.");
    KnotTown x = townOf("road o0+u0o1+u1");
    x.off(0);
    x.image(1);
    x.seed(4);
    x.twist(0, false, false);
    String before = state(x);
    for (int k : new int[] {0, 2, 3, 4, 5, -1, -2, MIN, MAX}) due("back(" + k + ")", x.back(k), -1);
    stays("images never made", x, before);
    for (int k : new int[] {4, -1, MAX}) due("image(" + k + ")", x.image(k), -1);
    stays("images that are none", x, before);
    due("back(3)", x.back(3), -1);
    due("back(1)", x.back(1), 1);
  }

  private static void imagesOfNoTown() {
    says("IMAGES 0 to 3: all but the RULES and the TAPE, as it is");
    KnotTown x = new KnotTown();
    due("image(0) without a town", x.image(0), 0);
    String before = state(x);
    feed(x, WHITEHEAD);
    due("town()", x.town(), 5);
    x.seed(8);
    due("back(0)", x.back(0), 0);
    stays("back to no town", x, before);
    due("writhe()", x.writhe(), -1000);
    due("mirror()", x.mirror(), -1);
    due("land(0)", x.land(0), -1);
    due("bridge(0, 0)", x.bridge(0, 0), -1);
  }
}
