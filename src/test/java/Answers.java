/** What the tests share: texts put on the tape, and answers compared with those that are due. */
abstract class Answers {
  static final int MIN = Integer.MIN_VALUE;
  static final int MAX = Integer.MAX_VALUE;
  static final String KINK = "road o0+u0";
  static final String TREFOIL = "road o0+u1o2+u0o1+u2";
  static final String EIGHT = "road o0+u1o3-u0o2+u3o1-u2";
  static final String WHITEHEAD = "road o0+u1o3-u4o1-u2;road u0o2+u3o4-";
  static final String HOPF = "road o0+u1;road u0o1+";
  static final String SEVEN = "road o0+u1o2+u3o4+u5o6+u0o1+u2o3+u4o5+u6";
  static final String ELEVEN = "road o0+u1o2+u3o4+u5o6+u7o8+u9o10+u0o1+u2o3+u4o5+u6o7+u8o9+u10";
  static final String LOOSE = "road o0+o1-;road u0u1";
  static final String SLIDING = "road o0+o1+o3-u0u2u3u1o2-";
  static final String TWO_GROUPS = "road o0+u0;road u3o3-";

  private static String words = "";
  private static int wrong;

  /** The words of the document that the next answers are about. */
  static void says(String sentence) { words = sentence; }

  static void due(String call, long got, long want) {
    if (got != want) {
      wrong++;
      System.out.println(call + " answered " + got + ", due is " + want + (words.isEmpty() ? "" : " (" + words + ")"));
    }
  }

  static void due(String call, boolean got, boolean want) { due(call, got ? 1 : 0, want ? 1 : 0); }

  static void finish(String allWell) {
    System.out.println(wrong == 0 ? allWell : wrong + " answers are not as due");
    if (wrong != 0) System.exit(1);
  }

  /** A text comes behind the tape. */
  static void feed(KnotTown x, String text) {
    int before = x.count(9);
    StringBuilder padded = new StringBuilder(text);
    while (padded.length() % 20 != 0) padded.append('?');
    for (int at = 0; at < padded.length(); at += 20) {
      int[] n = new int[5];
      for (int i = 0; i < 20; i++) n[i / 4] = n[i / 4] << 8 | padded.charAt(at + i) & 255;
      due("feed of '" + text + "'", x.feed(n[0], n[1], n[2], n[3], n[4]), before + at + 20);
    }
    due("end of '" + text + "'", x.end(before + text.length()), before + text.length());
  }

  static KnotTown townOf(String text) {
    KnotTown x = new KnotTown();
    feed(x, text);
    due("town of '" + text + "' is none", x.town() >= 0, true);
    return x;
  }

  static int ruleOf(KnotTown x, String text) {
    feed(x, text);
    return x.rule();
  }

  /** A town with one rule, which is in force. */
  static KnotTown ruled(String town, String rule) {
    KnotTown x = townOf(town);
    due("rule '" + rule + "'", ruleOf(x, rule), 0);
    due("force(0)", x.force(0), -1);
    return x;
  }

  static int fault(int place, int kind) { return -2 - (1 + 8 * place + kind); }

  static int townAnswer(String text) {
    KnotTown x = new KnotTown();
    feed(x, text);
    return x.town();
  }

  static int ruleAnswer(String text) { return ruleOf(new KnotTown(), text); }

  static void townFault(String text, int place, int kind) { due("town of '" + text + "'", townAnswer(text), fault(place, kind)); }

  static void ruleFault(String text, int place, int kind) { due("rule '" + text + "'", ruleAnswer(text), fault(place, kind)); }

  static void townHas(String text, int bridges) { due("town of '" + text + "'", townAnswer(text), bridges); }

  static void ruleStands(String text) { due("rule '" + text + "'", ruleAnswer(text), 0); }

  /** What can be asked of an object: what no refused call, and no question, may change. */
  static String state(KnotTown x) {
    StringBuilder s = new StringBuilder();
    for (int what = 0; what <= 10; what++) s.append(x.count(what)).append(' ');
    int places = x.count(2);
    for (int p = 0; p < places; p++) for (int what = 0; what < 3; what++) s.append(x.place(p, what)).append(what == 2 ? ";" : ",");
    for (int b = 0; b < 11; b++) s.append(' ').append(x.bridge(b, 0));
    s.append(" land ").append(x.land(0)).append(" can ").append(x.can(1)).append(' ').append(x.can(2)).append(' ').append(x.can(3));
    s.append(" writhe ").append(x.writhe()).append(" determinant ").append(x.determinant());
    s.append(" colours ").append(x.colours(3)).append(" shaken ").append(x.shaken()).append(" gossip ").append(x.gossip(0, 1));
    return s.append(" floods ").append(x.floods(20, 50, 0, 1)).append(" number ").append(x.polynomial(1, 0)).toString();
  }

  static void stays(String calls, KnotTown x, String before) {
    String now = state(x);
    due(calls + ": all stays, " + before + " became " + now, now.equals(before), true);
  }

  /** The passes of a town are these: bridge and 1 if over, by places. */
  static void passes(String when, KnotTown x, int... wanted) {
    due("places " + when, x.count(2), wanted.length / 2);
    for (int i = 0; i < wanted.length; i++) due("place(" + i / 2 + ", " + i % 2 + ") " + when, x.place(i / 2, i % 2), wanted[i]);
  }

  /** The town as it is now, as a text. */
  static String told(KnotTown x) {
    StringBuilder text = new StringBuilder("road");
    int road = 0;
    int places = x.count(2);
    for (int p = 0; p < places; p++) {
      for (; road < x.place(p, 2); road++) text.append(";road");
      int b = x.place(p, 0);
      text.append(x.place(p, 1) == 0 ? " u" + b : " o" + b + (x.bridge(b, 0) == 1 ? "+" : "-"));
    }
    for (; road < x.count(0) - 1; road++) text.append(";road");
    return text.toString();
  }

  /** What follows from the town alone. */
  static String follows(KnotTown x) {
    StringBuilder s = new StringBuilder();
    for (int b = 0; b < 11; b++) s.append(x.bridge(b, 1)).append(',').append(x.bridge(b, 2)).append(' ');
    for (int what : new int[] {0, 1, 2, 3, 5, 10}) s.append(x.count(what)).append(' ');
    for (int what = 0; what < 4; what++) s.append(x.land(what)).append(' ');
    for (int kind = 1; kind < 4; kind++) s.append(x.can(kind)).append(' ');
    s.append(x.writhe()).append(' ').append(x.linked()).append(' ').append(x.determinant()).append(' ').append(x.colours(3)).append(' ').append(x.colours(5));
    s.append(" shaken ").append(x.shaken()).append(" row");
    for (int k = 0; k < 8; k++) s.append(' ').append(x.row(k / 4, k % 4));
    s.append(" changes ").append(x.changes(0)).append(' ').append(x.changes(1)).append(" numbers");
    for (int power = -24; power <= 24; power++) s.append(' ').append(x.polynomial(0, power)).append(',').append(x.polynomial(1, power));
    return s.toString();
  }

  /** All that follows from the town is as of one that was told anew. */
  static void asToldAnew(String behind, KnotTown x) {
    String text = told(x);
    String now = follows(x);
    String anew = follows(townOf(text));
    due(behind + ": '" + text + "' has " + now + ", told anew " + anew, now.equals(anew), true);
  }
}
