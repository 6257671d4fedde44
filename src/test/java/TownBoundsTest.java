/** Promises 1 to 4, with TOWN, LAND and their FAULTS: each sentence that names a boundary case. */
public final class TownBoundsTest extends Answers {
  public static void main(String[] args) {
    newObject();
    fiveHundredCalls();
    bytesOfAFeed();
    fullTape();
    endOfTape();
    cutTape();
    fourHundredBytes();
    oneOrTwoRoads();
    fewAndManyPasses();
    numbers();
    hands();
    placesOfTwoRoads();
    comingHome();
    overOnceUnderOnce();
    piecesOfEmptyRoads();
    orderRoundABridge();
    hangingTogether();
    drawing();
    anyByte();
    words();
    endsOfTexts();
    thirdRoads();
    overTwice();
    notOverNotUnder();
    notDrawn();
    firstAlongTheText();
    leastOfOnePlace();
    blanksBetween();
    townInPlaceOfAnother();
    faultLeavesAll();
    finish("the bounds of towns hold");
  }

  private static void newObject() {
    says("No TOWN, no RULES, none IN FORCE.");
    KnotTown x = new KnotTown();
    int[] counts = {0, 0, 0, 0, 0, 0, 0, -1, 0, 0, 0};
    for (int what = 0; what < counts.length; what++) due("count(" + what + ")", x.count(what), counts[what]);
    due("force(-1)", x.force(-1), -1);
    due("force(0)", x.force(0), -2);
    due("writhe()", x.writhe(), -1000);
    due("seed(0)", x.seed(0), 0);
    for (int k = 0; k < 4; k++) due("back(" + k + ")", x.back(k), -1);
    due("another object's town", townOf(TREFOIL).count(1), 3);
    due("count(1)", x.count(1), 0);
  }

  private static void fiveHundredCalls() {
    says("An object is used for at most 512 calls after it has been made");
    KnotTown x = new KnotTown();
    for (int i = 0; i < 20; i++) x.feed(0x20202020, 0x20202020, 0x20202020, 0x20202020, 0x20202020);
    x.end(0);
    x.feed(0x726f6164, 0x206f302b, 0x75302020, 0x20202020, 0x20202020);
    due("town()", x.town(), 1);
    int calls = 23;
    for (; calls < 508; calls += 2) {
      due("twist", x.twist(0, true, true), 1);
      due("off", x.off(1), true);
    }
    for (; calls < 511; calls++) due("shaken()", x.shaken(), 1);
    due("the last call", x.count(4), 243);
  }

  private static void bytesOfAFeed() {
    says("Twenty bytes come behind the TAPE, of each number the highest first: how many it has");
    for (int ahead = 0; ahead <= 20; ahead += 20) {
      for (int i = 0; i < 20; i++) {
        KnotTown x = new KnotTown();
        if (ahead > 0) due("feed", x.feed(0x20202020, 0x20202020, 0x20202020, 0x20202020, 0x20202020), 20);
        int[] n = new int[5];
        for (int k = 0; k < 20; k++) n[k / 4] = n[k / 4] << 8 | (k == i ? 255 : 32);
        due("feed", x.feed(n[0], n[1], n[2], n[3], n[4]), ahead + 20);
        due("town() with byte " + i, x.town(), fault(ahead + i, 0));
      }
    }
  }

  private static void fullTape() {
    says("NONE, and none comes, if it would have more than 400.");
    KnotTown x = new KnotTown();
    feed(x, " ".repeat(390) + KINK);
    due("tape", x.count(9), 400);
    due("feed of a full tape", x.feed(-1, -1, -1, -1, -1), -1);
    due("tape", x.count(9), 400);
    due("town() of the full tape", x.town(), 1);
    for (int length : new int[] {381, 382, 399, 400}) {
      KnotTown y = new KnotTown();
      feed(y, " ".repeat(length));
      due("feed behind " + length, y.feed(0, 0, 0, 0, 0), -1);
      due("tape", y.count(9), length);
      due("town()", y.town(), fault(length, 0));
    }
    for (int length : new int[] {379, 380}) {
      KnotTown y = new KnotTown();
      feed(y, " ".repeat(length));
      due("feed behind " + length, y.feed(0, 0, 0, 0, 0), length + 20);
      due("town()", y.town(), fault(length, 0));
    }
  }

  private static void endOfTape() {
    says("NONE, and nothing happens, if it has not so many, or n is below 0.");
    KnotTown x = new KnotTown();
    due("end(1) of none", x.end(1), -1);
    due("end(-1) of none", x.end(-1), -1);
    due("end(0) of none", x.end(0), 0);
    x.feed(0, 0, 0, 0, 0);
    for (int n : new int[] {21, 22, 400, 401, MAX, -1, -20, MIN}) {
      due("end(" + n + ")", x.end(n), -1);
      due("tape", x.count(9), 20);
    }
    due("end(20)", x.end(20), 20);
    due("tape", x.count(9), 20);
    due("end(1)", x.end(1), 1);
    due("end(2)", x.end(2), -1);
    due("end(0)", x.end(0), 0);
    due("tape", x.count(9), 0);
  }

  private static void cutTape() {
    says("The TAPE has its first n bytes alone: n");
    KnotTown x = new KnotTown();
    String[] texts = {"road o1+u10", "road;roads", "road;road ;", "road o0+u0road"};
    int[] ends = {10, 9, 10, 10};
    int[] bridges = {1, 0, 0, 1};
    for (int i = 0; i < texts.length; i++) {
      feed(x, texts[i]);
      due("end", x.end(ends[i]), ends[i]);
      due("town of '" + texts[i] + "', cut", x.town(), bridges[i]);
    }
    feed(x, "road????");
    x.end(4);
    feed(x, " o0+");
    x.end(6);
    feed(x, "7-u7");
    due("town fed in parts", x.town(), 1);
    due("its bridge", x.bridge(7, 0), 0);
    feed(x, "bar 1<=1");
    x.end(6);
    due("a rule cut short", x.rule(), fault(6, 0));
    feed(x, "bar 1=100000");
    x.end(11);
    due("a rule cut short", x.rule(), 0);
  }

  private static void fourHundredBytes() {
    says("A TOWN is a text of at most 400 bytes");
    townHas(" ".repeat(390) + KINK, 1);
    townHas(KINK + " ".repeat(390), 1);
    townHas("road" + " ".repeat(390) + "o0+u0 ", 1);
    townFault(" ".repeat(400), 400, 0);
    townFault(" ".repeat(391) + "road o0+u", 400, 0);
    townFault(" ".repeat(392) + "road o0+", 400, 6);
    townFault(" ".repeat(385) + "road o0+o1+u0u1", 400, 7);
  }

  private static void oneOrTwoRoads() {
    says("CLAUSE { ; CLAUSE }, one or two");
    townFault("", 0, 0);
    townFault(";", 0, 0);
    due("roads", townOf("road").count(0), 1);
    due("roads", townOf("road;road").count(0), 2);
    due("roads", townOf(KINK).count(0), 1);
    due("roads", townOf("road;" + KINK).count(0), 2);
    due("roads", townOf(KINK + ";road").count(0), 2);
    townFault("road;road;road", 10, 4);
  }

  private static void fewAndManyPasses() {
    says("road { PASS }");
    townHas("road", 0);
    due("places of none", townOf("road").count(2), 0);
    townHas(ELEVEN, 11);
    due("places of all", townOf(ELEVEN).count(2), 22);
    due("the last place", townOf(ELEVEN).place(21, 0), 10);
    StringBuilder kinks = new StringBuilder("road");
    for (int b = 0; b < 11; b++) kinks.append(" o").append(b).append("- u").append(b);
    townHas(kinks.toString(), 11);
    townHas("road;" + kinks, 11);
    townHas(kinks + ";road", 11);
    townFault(kinks + "o", kinks.length() + 1, 0);
    townFault(kinks + "o0+", kinks.length() + 1, 5);
    townFault(kinks + "u10", kinks.length() + 1, 5);
    townFault(kinks + ";road u10", kinks.length() + 7, 5);
  }

  private static void numbers() {
    says("NUMBER 0 to 10, of a BRIDGE");
    for (int b = 0; b <= 10; b++) {
      KnotTown x = townOf("road o" + b + "+u" + b);
      due("place(0, 0)", x.place(0, 0), b);
      due("bridge(" + b + ", 0)", x.bridge(b, 0), 1);
    }
    for (int b : new int[] {11, 12, 19, 20, 99, 100, 110, 1010, 99999}) {
      townFault("road o" + b + "+u" + b, 6, 1);
      townFault("road u" + b + "o" + b + "+", 6, 1);
    }
    says("1 a NUMBER of more digits (5 at most), or not as told (at it)");
    townHas("road o00000+u0000", 1);
    townHas("road o00010+u010", 1);
    townFault("road o00011+u11", 6, 1);
    townFault("road o000000+u0", 6, 1);
    townFault("road o000010+u10", 6, 1);
    townFault("road o  000010+u10", 8, 1);
    townFault("road o0+u000000", 9, 1);
    townFault("road o99999999999999999999+", 6, 1);
    townFault("road o4294967296+", 6, 1);
    townFault("road o1" + "0".repeat(393), 6, 1);
    townFault("road o 1 0+", 9, 0);
  }

  private static void hands() {
    says("SIGN + or -, its HAND");
    due("HAND +", townOf("road o0+u0").bridge(0, 0), 1);
    due("HAND -", townOf("road o0-u0").bridge(0, 0), 0);
    due("HAND -, under first", townOf("road u0o0-").bridge(0, 0), 0);
    for (String sign : new String[] {"*", "=", "0u", "~", ",", ";", "u0", "o0"}) {
      int place = sign.equals("0u") ? 8 : 7;
      townFault("road o0" + sign, place, 0);
    }
    townFault("road o0++u0", 8, 0);
    townFault("road o0+-u0", 8, 0);
    townFault("road o0+u0+", 10, 0);
    townFault("road u0-o0-", 7, 0);
    townFault("road o+0u0", 6, 0);
  }

  private static void placesOfTwoRoads() {
    says("PLACES are the PASSES, 0 and on, of the first road, then of the other one.");
    KnotTown x = townOf("road o7-u2;road o2-u7");
    passes("of two roads", x, 7, 1, 2, 0, 2, 1, 7, 0);
    int[] roads = {0, 0, 1, 1};
    for (int p = 0; p < 4; p++) due("place(" + p + ", 2)", x.place(p, 2), roads[p]);
    for (int p : new int[] {-1, 4, 5, 22, MIN, MAX}) for (int what = 0; what < 5; what++) due("place(" + p + ", .)", x.place(p, what), -1);
    due("the first place of a second road", townOf("road;" + KINK).place(0, 2), 1);
    due("the last place of a first road", townOf(KINK + ";road").place(1, 2), 0);
  }

  private static void comingHome() {
    says("Each road comes home: behind its last PASS is its first one (a road without any goes round by itself).");
    int[] next = {1, 2, 3, 4, 5, 0, 7, 8, 9, 6};
    KnotTown x = townOf(WHITEHEAD);
    for (int p = 0; p < 10; p++) due("place(" + p + ", 3)", x.place(p, 3), next[p]);
    due("last of the first road", townOf(KINK + ";road").place(1, 3), 0);
    due("last of the second road", townOf("road;" + KINK).place(1, 3), 0);
    due("last of 22", townOf(ELEVEN).place(21, 3), 0);
    due("ring of a road without passes", townOf("road").polynomial(0, 0), 1);
  }

  private static void overOnceUnderOnce() {
    says("Each BRIDGE that is told is gone over once and under once, by whichever road.");
    townHas("road o0+u0", 1);
    townHas("road u0o0+", 1);
    townHas(HOPF, 2);
    townHas("road u0u1;road o0-o1+", 2);
    KnotTown x = townOf("road u0u1;road o0-o1+");
    due("over 1", x.bridge(1, 1), 3);
    due("under 1", x.bridge(1, 2), 1);
  }

  private static void piecesOfEmptyRoads() {
    says("(a road without PASSES has none)");
    for (String text : new String[] {"road", "road;road"}) {
      KnotTown x = townOf(text);
      due("gossip(0, 0)", x.gossip(0, 0), -1);
      due("heard(0, 0)", x.heard(0, 0), -1);
      due("floods(1, 0, 0, 0)", x.floods(1, 0, 0, 0), -1);
      due("place(0, 4)", x.place(0, 4), -1);
    }
    KnotTown y = townOf("road;" + KINK);
    due("gossip(1, 0)", y.gossip(1, 0), 2);
    due("gossip(2, 0)", y.gossip(2, 0), -1);
  }

  private static void orderRoundABridge() {
    says("HAND +: over and away, under and away, over and come from, under and come from; HAND -: over and away, under and come from, over and come from, under and away.");
    townHas("road o0+u1;road u0o1+", 2);
    townHas("road o0-u1;road u0o1-", 2);
    townFault("road o0+u1;road u0o1-", 21, 7);
    townHas("road o0+o1-;road u0u1", 2);
    townHas("road o0-o1+;road u0u1", 2);
    townFault("road o0+o1+;road u0u1", 21, 7);
    townFault("road o0-o1-;road u0u1", 21, 7);
    says("the ends from which one goes so are round one piece of LAND; each end is round just one");
    land("road o0+o1-u1u0", 4, 4, 1, 0);
    land("road o0+o1+u1u0", 4, 3, 0, 2);
    land("road o0-o1-u1u0", 4, 3, 0, 2);
    land(KINK, 3, 2, 1, 0);
    land("road o0-u0", 3, 2, 1, 0);
  }

  private static void land(String text, int... wanted) {
    KnotTown x = townOf(text);
    for (int what = 0; what < 4; what++) due("land(" + what + ") of '" + text + "'", x.land(what), wanted[what]);
  }

  private static void hangingTogether() {
    says("BRIDGES hang together if a PIECE leads from one to the other one, or by others.");
    String[] texts = {"road", "road;road", KINK, "road o0+u0o1+u1o2+u2", ELEVEN, HOPF, TWO_GROUPS, "road;" + TREFOIL, TREFOIL + ";road",
        TREFOIL + ";road o3+u3o4-u4", "road o2+u2o0+o1-;road u0u1u3o3+"};
    int[] groups = {0, 0, 1, 1, 1, 1, 2, 1, 1, 2, 1};
    for (int i = 0; i < texts.length; i++) due("count(10) of '" + texts[i] + "'", townOf(texts[i]).count(10), groups[i]);
    KnotTown x = townOf("road o2+u2o0+o1-;road u0u1u3o3+");
    due("apart(0, 1)", x.apart(0, 1), true);
    due("groups behind it", x.count(10), 2);
    due("off(2)", x.off(2), true);
    due("groups behind it", x.count(10), 1);
    due("off(3)", x.off(3), true);
    due("groups behind it", x.count(10), 0);
  }

  private static void drawing() {
    says("The town CAN BE DRAWN if there are so many pieces of LAND as BRIDGES and twice as many as there are groups that hang together.");
    String[] texts = {"road", "road;road", KINK, HOPF, TREFOIL, TWO_GROUPS, TREFOIL + ";road o3+u3o4-u4"};
    int[] bridges = {0, 0, 1, 2, 3, 2, 5};
    int[] groups = {0, 0, 1, 1, 1, 2, 2};
    for (int i = 0; i < texts.length; i++) {
      townHas(texts[i], bridges[i]);
      due("land(0) of '" + texts[i] + "'", townOf(texts[i]).land(0), bridges[i] + 2 * groups[i]);
    }
    townFault("road o0+;road u0", 16, 7);
    townFault("road o0+o1+u0u1", 15, 7);
    townFault("road o0+o1-u0u1", 15, 7);
    townFault("road o0-u1o2+u0o1+u2", 20, 7);
    townFault("road o0+o1+u0u1;road o2+u2", 26, 7);
    townFault("road o2+u2;road o0+o1+u0u1", 26, 7);
    townFault("road o0+o1+u0u1;road o2+o3+u2u3", 31, 7);
  }

  private static void anyByte() {
    says("0 a byte or word that can't stand there, or the end (behind the last byte; also without a road)");
    for (int b = 0; b < 256; b++) {
      char c = (char) b;
      boolean small = c >= 'a' && c <= 'z';
      due("town of byte " + b + " and road", townAnswer(c + "road"), c == ' ' ? 0 : fault(0, 0));
      int behind = c == ' ' ? 0 : c == ';' ? fault(5, 0) : small ? fault(0, 0) : fault(4, 0);
      due("town of road and byte " + b, townAnswer("road" + c), behind);
      boolean digit = c >= '0' && c <= '9';
      int last = c == ' ' || c == '0' ? 1 : digit ? fault(11, 6) : c == ';' || c == 'o' || c == 'u' ? fault(11, 0) : fault(10, 0);
      due("town of a kink and byte " + b, townAnswer(KINK + c), last);
      due("town with hand " + b, townAnswer("road o01" + c + "u1"), handAnswer(c));
    }
  }

  /** Behind "o01" a digit makes a longer number: 010 is a bridge, 011 and on is none. */
  private static int handAnswer(char c) {
    if (c == '+' || c == '-') return 1;
    if (c == '0' || c == ' ') return fault(9, 0);
    return c >= '1' && c <= '9' ? fault(6, 1) : fault(8, 0);
  }

  private static void words() {
    says("0 a byte or word that can't stand there");
    for (String word : new String[] {"roads", "roa", "roadroad", "Road", "ROAD", "r", "bar", "o0+u0", "u0", "0", "+"}) townFault(word, 0, 0);
    townFault("road road", 5, 0);
    townFault("road;roads", 5, 0);
    townFault("road;o0+u0", 5, 0);
    townFault("roado0+u0", 0, 0);
    townFault("road ou0", 5, 0);
    townFault("road over0", 5, 0);
    townFault("road o0+uu0", 8, 0);
    townFault("road o0+U0", 8, 0);
    townFault("road O0+u0", 5, 0);
    townFault("road o0+u0road", 10, 0);
    townFault("road o0+u0 road", 11, 0);
    townFault("road 0", 5, 0);
    townFault("road o0+0", 8, 0);
  }

  private static void endsOfTexts() {
    says("or the end (behind the last byte; also without a road)");
    townFault("", 0, 0);
    townFault(" ", 1, 0);
    townFault("  ", 2, 0);
    townFault("road;", 5, 0);
    townFault("road;  ", 7, 0);
    townFault("road o", 6, 0);
    townFault("road o ", 7, 0);
    townFault("road u", 6, 0);
    townFault("road o0", 7, 0);
    townFault("road o0  ", 9, 0);
    townFault("road o10", 8, 0);
    townFault("road;road o0", 12, 0);
  }

  private static void thirdRoads() {
    says("4 a third road (at its first byte)");
    townFault("road;road;road", 10, 4);
    townFault("road;road;  road", 12, 4);
    townFault("road;road ; road o11", 12, 4);
    townFault(HOPF + ";road", 22, 4);
    townFault("road o0+;road;road u0", 14, 4);
  }

  private static void overTwice() {
    says("5 a BRIDGE that was gone over (under) already (at its NUMBER)");
    townFault("road o0+o0+", 9, 5);
    townFault("road o0+o0", 9, 5);
    townFault("road o0+ o 0-", 11, 5);
    townFault("road u3u3", 8, 5);
    townFault("road u3;road u3", 14, 5);
    townFault("road o10+u10o10+", 13, 5);
    townFault("road o10+u10u10", 13, 5);
    townFault("road o1+u1o01+", 11, 5);
    townFault("road o0+u0;road o0+u0", 17, 5);
    townHas("road u0o0+u10o10+", 2);
  }

  private static void notOverNotUnder() {
    says("6 at the end: some BRIDGE is not gone over, or not under");
    townFault("road o0+", 8, 6);
    townFault("road u0", 7, 6);
    townFault("road o0-  ", 10, 6);
    townFault("road o0+u1", 10, 6);
    townFault("road o0+;road u1", 16, 6);
    townFault("road o0+u0o10+", 14, 6);
    townFault("road o0+u0;road u10", 19, 6);
    townFault("road u0o0+u1u2o1+", 17, 6);
  }

  private static void notDrawn() {
    says("7 at the end: the town can't be drawn");
    townFault("road o0+o1+u0u1", 15, 7);
    townFault("road o0+o1+u0u1   ", 18, 7);
    townFault("road o0+;road u0", 16, 7);
  }

  private static void firstAlongTheText() {
    says("FAULTS, the first along the text");
    townFault("road o11+?", 6, 1);
    townFault("road ?o11+", 5, 0);
    townFault("road o0+o0+o11+", 9, 5);
    townFault("road o0+o11+o0+", 9, 1);
    townFault("road;road;road o11", 10, 4);
    townFault("road o11;road;road", 6, 1);
    townFault("road o0+o1+u0u1?", 15, 0);
    townFault("road o0+ ?", 9, 0);
    townFault("road u0u0o11", 8, 5);
  }

  private static void leastOfOnePlace() {
    says("Of one place the least.");
    townFault("road o0+o", 9, 0);
    townFault("road o0+;", 9, 0);
    townFault("road u0o0", 9, 0);
    townFault("road o0+o1+u0u1;", 16, 0);
    townFault("road o0+o1+u0", 13, 6);
    townFault("road;road;", 10, 0);
    townFault("road;road;roads", 10, 0);
    townFault("road;road;?", 10, 0);
  }

  private static void blanksBetween() {
    says("Blanks (32) stand between as one likes.");
    townHas("road o0+u0", 1);
    townHas("  road  o  0  +  u  0  ", 1);
    townHas("road;road", 0);
    townHas(" road ; road ", 0);
    townHas("road o0+u1;road u0o1+", 2);
    for (char c : new char[] {9, 10, 13, 0, 160}) {
      townFault("road" + c + "o0+u0", 4, 0);
      townFault("road o0+" + c + "u0", 8, 0);
    }
    townFault("ro ad", 0, 0);
    townFault("road o1 0+u10", 8, 0);
  }

  private static void townInPlaceOfAnother() {
    says("The TAPE, which is empty then, is the TOWN in place of the one there was (no MOVES done; the RULE IN FORCE and x stay): how many BRIDGES");
    KnotTown x = ruled("road o9+u9", "bar 1=1");
    x.seed(77);
    due("shaken()", x.shaken(), 1);
    due("polynomial(0, 3)", x.polynomial(0, 3), -1);
    due("off(9)", x.off(9), true);
    due("moves done", x.count(4), 1);
    feed(x, HOPF);
    due("town()", x.town(), 2);
    int[] counts = {2, 2, 4, 2, 0, 2, 1, 0, 77, 0, 1};
    for (int what = 0; what < counts.length; what++) due("count(" + what + ")", x.count(what), counts[what]);
    due("bridge(9, 0)", x.bridge(9, 0), -1);
    due("shaken()", x.shaken(), -2);
    due("polynomial(0, 3)", x.polynomial(0, 3), 0);
    due("gossip by the rule in force", x.gossip(0, 5), 1);
    due("changes(0)", x.changes(0), 1);
    feed(x, "road o0-u0;road");
    due("town()", x.town(), 1);
    due("a hand told anew", x.bridge(0, 0), 0);
    asToldAnew("a town in place of another", x);
    feed(x, "road");
    due("town()", x.town(), 0);
    due("places", x.count(2), 0);
    due("changes(0)", x.changes(0), 0);
    due("town() of an empty tape", x.town(), fault(0, 0));
  }

  private static void faultLeavesAll() {
    says("-2 - its FAULT, and all stays.");
    KnotTown x = ruled("road o4+u4o2-u2", "bar over=1");
    x.seed(5);
    x.off(2);
    String before = state(x);
    String[] texts = {"", "street", "road o11+", "road;road;road", "road o0+o0+", "road o0+", "road o0+o1+u0u1"};
    int[] faults = {fault(0, 0), fault(0, 0), fault(6, 1), fault(10, 4), fault(9, 5), fault(8, 6), fault(15, 7)};
    for (int i = 0; i < texts.length; i++) {
      feed(x, texts[i]);
      due("town of '" + texts[i] + "'", x.town(), faults[i]);
      due("tape", x.count(9), 0);
    }
    stays("towns with faults", x, before);
    feed(x, "road o0-u0");
    due("town() behind faults", x.town(), 1);
    due("its hand", x.bridge(0, 0), 0);
    KnotTown y = new KnotTown();
    feed(y, "road o0+");
    due("town of none before", y.town(), fault(8, 6));
    due("roads", y.count(0), 0);
    due("writhe()", y.writhe(), -1000);
  }
}
