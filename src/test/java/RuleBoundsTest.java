/** Promises 5 and 6, with RULES and their FAULTS: each sentence that names a boundary case. */
public final class RuleBoundsTest extends Answers {
  public static void main(String[] args) {
    sixRules();
    twelveClauses();
    orAndAnd();
    notAndBrackets();
    signs();
    sumsAndTerms();
    numbers();
    words();
    wordsOfGossip();
    towardsZero();
    roundIn64Bits();
    blanks();
    tenDeep();
    sixty();
    anyByte();
    bytesAndWords();
    endsOfTexts();
    numbersTooLong();
    tooDeep();
    tooMany();
    thirteenthClause();
    firstAlongTheText();
    leastOfOnePlace();
    tapeBehindARule();
    force();
    finish("the bounds of rules hold");
  }

  /** Whether a test holds for gossip that is to pass the bridge of a kink, from piece 0 to piece 1. */
  private static boolean holds(String test) {
    int got = ruled(KINK, "bar " + test).gossip(0, 1);
    due("gossip by " + test, got == 1 || got == 3, true);
    return got == 1;
  }

  private static void hold(String... tests) {
    for (String test : tests) due("bar " + test, holds(test), true);
  }

  private static void fail(String... tests) {
    for (String test : tests) due("bar " + test, holds(test), false);
  }

  private static void sixRules() {
    says("RULES 0 to 5");
    KnotTown x = townOf(KINK);
    for (int i = 0; i < 6; i++) {
      due("rules", x.count(6), i);
      due("rule()", ruleOf(x, "bar minute<=" + i), i);
    }
    for (int i = 5; i >= 0; i--) {
      x.force(i);
      due("minute by rule " + i, x.heard(0, 1), i + 1);
    }
    says("NONE, and nothing happens: there are 6.");
    String before = state(x);
    feed(x, "bar 1=1");
    due("a seventh rule", x.rule(), -1);
    due("tape behind it", x.count(9), 7);
    due("again", x.rule(), -1);
    x.end(0);
    due("a seventh rule with a fault", x.rule(), -1);
    feed(x, "bar");
    due("a seventh rule with a fault", x.rule(), -1);
    due("tape behind it", x.count(9), 3);
    x.end(0);
    stays("a seventh rule", x, before);
    feed(x, TREFOIL);
    due("a seventh rule", x.rule(), -1);
    due("the tape as a town", x.town(), 3);
  }

  private static void twelveClauses() {
    says("12 CLAUSES at most");
    ruleStands("bar 1=1");
    ruleStands("bar 1=2" + ";bar 1=2".repeat(11));
    ruleFault("bar 1=2" + ";bar 1=2".repeat(12), 96, 4);
    hold("1=2" + ";bar 1=2".repeat(10) + ";bar 1=1", "1=1" + ";bar 1=2".repeat(11), "1=2;bar 1=1;bar 1=2");
    fail("1=2" + ";bar 1=2".repeat(11), "1=2");
  }

  private static void orAndAnd() {
    says("TEST: PART { or PART }. PART: FACT { and FACT }.");
    hold("1=1 or 1=2", "1=2 or 1=1", "1=1 or 1=1", "1=2 or 1=2 or 1=1", "1=1 and 1=1", "1=1 or 1=1 and 1=2", "1=2 and 1=2 or 1=1", "1=1 and 1=1 and 1=1");
    fail("1=2 or 1=2", "1=1 and 1=2", "1=2 and 1=1", "1=2 and 1=2", "1=1 and 1=2 or 1=2", "1=2 and 1=1 or 1=2", "1=1 and 1=1 and 1=2");
    ruleFault("bar 1=1 or", 10, 0);
    ruleFault("bar or 1=1", 4, 0);
    ruleFault("bar 1=1 or or 1=1", 11, 0);
    ruleFault("bar 1=1 and", 11, 0);
    ruleFault("bar and 1=1", 4, 0);
    ruleFault("bar 1=1 and or 1=1", 12, 0);
    ruleStands("bar 1=1or1=1and1=1");
  }

  private static void notAndBrackets() {
    says("FACT: not FACT | [ TEST ] (these brackets are signs)");
    hold("not 1=2", "not not 1=1", "[1=1]", "not [1=2]", "not[1=2 or 1=2]", "[not 1=2]", "not 1=2 and 1=1", "not 1=1 or 1=1", "[1=2 or 1=1] and 1=1", "not[1=1 and 1=2]");
    fail("not 1=1", "not not 1=2", "[1=2]", "not [1=1]", "not 1=1 and 1=2", "not 1=2 and 1=2", "[1=1 or 1=1] and 1=2", "1=2 and [1=1 or 1=1]", "not[1=2 or 1=1]");
    ruleFault("bar []", 5, 0);
    ruleFault("bar [1=1", 8, 0);
    ruleFault("bar [1=1;bar 1=1", 8, 0);
    ruleFault("bar 1=1]", 7, 0);
    ruleFault("bar [1=1]]", 9, 0);
    ruleFault("bar [1+1]=2", 8, 0);
    ruleFault("bar 2=[1+1]", 6, 0);
    ruleFault("bar not", 7, 0);
    ruleFault("bar not 1", 9, 0);
    ruleFault("bar 1 not =1", 6, 0);
    ruleFault("bar (1=1)", 4, 0);
  }

  private static void signs() {
    says("SUM SIGN SUM, SIGN one of < <= = >= >");
    hold("1<2", "1<=2", "2<=2", "2=2", "2>=2", "3>=2", "3>2");
    fail("2<2", "3<2", "3<=2", "1=2", "3=2", "1>=2", "1>2", "2>2");
    ruleFault("bar 1==1", 6, 0);
    ruleFault("bar 1=<1", 6, 0);
    ruleFault("bar 1=>1", 6, 0);
    ruleFault("bar 1<>1", 6, 0);
    ruleFault("bar 1><1", 6, 0);
    ruleFault("bar 1<<1", 6, 0);
    ruleFault("bar 1<==1", 7, 0);
    ruleFault("bar 1< =1", 7, 0);
    ruleFault("bar 1> =1", 7, 0);
    ruleFault("bar 1!=1", 5, 0);
    ruleFault("bar 1=1=1", 7, 0);
    ruleFault("bar 1<2<3", 7, 0);
    ruleFault("bar 1", 5, 0);
    ruleFault("bar =1", 4, 0);
    ruleFault("bar 1 and 1=1", 6, 0);
  }

  private static void sumsAndTerms() {
    says("SUM: TERM { (+ or -) TERM }. TERM: VALUE { (* or / or %) VALUE }.");
    hold("2+3*4=14", "2*3+4=10", "20-5-5=10", "20-5+5=20", "40/4/5=2", "40/4*5=50", "7%4*2=6", "2*7%4=2", "17%10%4=3", "1+2-3*4/5%2=3", "1-2<0");
    fail("2+3*4=20", "20-5-5=20", "40/4/5=50");
    for (String sign : new String[] {"+", "-", "*", "/", "%"}) {
      ruleFault("bar " + sign + "1=1", 4, 0);
      ruleFault("bar 1" + sign + "=1", 6, 0);
      ruleFault("bar 1" + sign + sign + "1=1", 6, 0);
      ruleFault("bar 1=1" + sign, 8, 0);
    }
  }

  private static void numbers() {
    says("NUMBER (1 to 5 digits, as far as digits go on)");
    hold("0=00000", "00001=1", "99999=99999", "99999>99998", "99999=90000+9999", "10*10=100", "12345=12344+1");
    fail("10=1", "99999=9999");
    ruleFault("bar 100000=1", 4, 1);
    ruleFault("bar 1 0=1", 6, 0);
    ruleFault("bar 1=1 0", 8, 0);
  }

  private static void words() {
    says("WORDS (small letters, as far as these go on)");
    for (String word : new String[] {"bridge", "hand", "from", "to", "through", "over", "minute", "bridges"}) {
      ruleStands("bar " + word + "=" + word);
      ruleFault("bar " + word + "x=1", 4, 0);
      ruleFault("bar 1=" + word + "s" + "s", 6, 0);
      ruleFault("bar x" + word + "=1", 4, 0);
      if (!word.equals("bridges")) ruleFault("bar " + word.substring(0, word.length() - 1) + "=1", 4, 0);
      ruleFault("bar " + Character.toUpperCase(word.charAt(0)) + word.substring(1) + "=1", 4, 0);
      ruleFault("bar " + word + "1=1", 4 + word.length(), 0);
      ruleFault("bar 1" + word + "=1", 5, 0);
      ruleFault("bar not" + word + "=1", 4, 0);
    }
    for (String word : new String[] {"bars 1=1", "ba 1=1", "Bar 1=1", "barbridge=1", "road"}) ruleFault(word, 0, 0);
    for (String word : new String[] {"bar", "or", "and", "road", "o", "u", "minutes", "hands", "tos"}) ruleFault("bar " + word + "=1", 4, 0);
    for (String word : new String[] {"ors", "nor", "andy", "not", "bridge", "bar"}) ruleFault("bar 1=1 " + word + " 1=1", 8, 0);
    ruleStands("bar1=1");
    ruleStands("bar[bridge=1]");
    hold("bridges=1", "bridge=0");
    fail("bridges=0", "bridge=1");
  }

  // A trefoil's piece 0 comes over bridge 0 at its begin, where it meets pieces 5, 3 and 2, and under bridge 1 at its end, where it meets 1, 4 and 3.
  private static void wordsOfGossip() {
    says("bridge, hand (1 or 0: +, -), from, to (PIECES), through (1 if from the road over it to that under it, or back; 0 if along the road), over (1 if FROM comes to it over it, else 0), minute (the one that is to come, 1 the first), bridges (how many there are)");
    String[] bars = {"1=2", "bridge=1", "bridge=0", "bridge>1", "hand=1", "hand=0", "hand>1", "from=0", "from>0", "to=3", "to=0", "to=5", "through=1", "through=0",
        "through>1", "over=1", "over=0", "over>1", "minute=1", "minute<1", "minute>1", "bridges=3", "bridges<3", "bridges>3", "to=3 and bridge=1", "to=3 and bridge<2",
        "through=1 and over=1", "through=0 and over=1"};
    int[] has = {63, 45, 27, 63, 1, 63, 63, 1, 63, 55, 63, 31, 35, 29, 63, 27, 45, 63, 1, 63, 63, 1, 63, 63, 63, 55, 59, 31};
    for (int i = 0; i < bars.length; i++) due("gossip(0, 1), bar " + bars[i], ruled(TREFOIL, "bar " + bars[i]).gossip(0, 1), has[i]);
    for (int p = 0; p < 6; p++) {
      due("gossip(" + p + ", 1), bar from=" + p, ruled(TREFOIL, "bar from=" + p).gossip(p, 1), 1 << p);
      due("gossip(" + p + ", 1), bar from<" + p, ruled(TREFOIL, "bar from<" + p).gossip(p, 1), 63);
      due("gossip(" + p + ", 60), bar to<" + p, ruled(TREFOIL, "bar to<" + p).gossip(p, 60), 64 - (1 << p));
    }
    due("from in a later minute", ruled(TREFOIL, "bar through=1 or from=1").gossip(0, 60), 63);
    due("from in a later minute", ruled(TREFOIL, "bar through=1 or from=1 or from=4").gossip(0, 60), 0b110011);
    KnotTown x = ruled("road o0+u0o1-u1", "bar hand=0");
    due("gossip(0, 60), bar hand=0", x.gossip(0, 60), 1 | 2 | 8);
    KnotTown y = ruled(TREFOIL, "bar minute>1");
    due("only in the first minute", y.gossip(0, 60), 63);
    KnotTown z = ruled(TREFOIL, "bar bridges=3");
    z.twist(0, true, true);
    due("bridges are counted anew", z.gossip(0, 1) > 1, true);
  }

  private static void towardsZero() {
    says("/ is towards 0, % its rest, both 0 by 0");
    String least = "65536*65536*65536*32768";
    hold("7/2=3", "7%2=1", "6/3=2", "6%3=0", "1/2=0", "1%2=1", "5/0=0", "5%0=0", "0/0=0", "0%0=0", "1/through*through=1 or 1/through=0", "7/bridge=0", "7%bridge=0");
    hold(least + "<0", least + "/3*3=" + least + "+2", least + "%3=0-2", least + "/3<0-3", least + "/0=0", least + "%0=0");
    hold(least + "/65536/65536/65536/32768=0-1", least + "/99999*99999+" + least + "%99999=" + least);
  }

  private static void roundIn64Bits() {
    says("all goes round in 64 bits");
    String least = "65536*65536*65536*32768";
    hold("65536*65536*65536*65536=0", least + "-1>0", least + "-1+1=" + least, least + "+" + least + "=0", least + "*2=0", least + "*3=" + least, "0-" + least + "=" + least);
    hold("65536*65536*65536*32767>0", least + "<" + least + "-1", "99999*99999*99999*99999>0-1 or 99999*99999*99999*99999<0");
    fail("65536*65536>65536*65536", least + ">0", least + "-1<" + least);
    hold("65536*65536*65536>65536*65536");
  }

  private static void blanks() {
    says("Blanks (32) stand between as one likes.");
    ruleStands("bar1=1");
    ruleStands("  bar  1  =  1  ");
    ruleStands("bar 1 <= 1 ; bar [ not 1 >= 2 ] or 3 * 4 / 5 % 6 + 7 - 8 < 9");
    ruleStands("bar[not[1=1]and[over=1]or hand=0];bar1=1");
    ruleStands(" ".repeat(393) + "bar 1=1");
    ruleStands("bar 1=1" + " ".repeat(393));
    for (char c : new char[] {9, 10, 13, 0, 160}) ruleFault("bar 1=1" + c + "and 1=1", 7, 0);
    ruleFault("ba r 1=1", 0, 0);
    ruleFault("bar ov er=1", 4, 0);
    ruleFault("bar 1 1=1", 6, 0);
  }

  private static void tenDeep() {
    says("[ and not lie within one another 10 deep at most");
    ruleStands("bar " + "[".repeat(10) + "1=1" + "]".repeat(10));
    ruleStands("bar " + "not ".repeat(10) + "1=1");
    ruleStands("bar " + "not[".repeat(5) + "1=1" + "]".repeat(5));
    ruleStands("bar " + "[".repeat(10) + "1=1" + "]".repeat(10) + "and" + "[".repeat(10) + "1=1" + "]".repeat(10) + ";bar" + "[".repeat(10) + "1=1" + "]".repeat(10));
    ruleStands("bar " + "not ".repeat(10) + "1=1 or " + "not ".repeat(10) + "1=1");
    ruleStands("bar [" + "not ".repeat(9) + "1=1 and " + "not ".repeat(9) + "1=1]and[" + "[".repeat(9) + "1=1" + "]".repeat(10));
    hold("not ".repeat(10) + "1=1", "[".repeat(10) + "1=1" + "]".repeat(10), "not ".repeat(9) + "1=2");
    fail("not ".repeat(10) + "1=2", "not ".repeat(9) + "1=1");
  }

  private static String values(int n) { return "1" + "+1".repeat(n - 1); }

  private static void sixty() {
    says("at most 60 VALUES and FACTS made of a SIGN, together");
    ruleStands("bar " + values(58) + "=1");
    ruleStands("bar " + values(29) + "=" + values(30));
    ruleStands("bar 1=1" + " or 1=1".repeat(19));
    ruleStands("bar 1=1 and 1=1" + " or[1=1]".repeat(18));
    ruleStands("bar not 1=1" + " or 1=1".repeat(19));
    ruleStands("bar 1=1 or 1=1" + ";bar 1=1 or 1=1".repeat(9));
    hold("0" + "+0".repeat(56) + "+7=7");
    hold("1=2" + " or 1=2".repeat(18) + " or 1=1");
    ruleFault("bar " + values(59) + "=1", 4 + 2 * 59, 3);
    ruleFault("bar 1=1" + " or 1=1".repeat(20), 7 * 20 + 4, 3);
    ruleFault("bar 1=1 or 1=1" + ";bar 1=1 or 1=1".repeat(9) + ";bar 1=1", 149 + 5, 3);
  }

  private static void anyByte() {
    says("0 a byte or word that can't stand there, or the end");
    for (int b = 0; b < 256; b++) {
      char c = (char) b;
      boolean digit = c >= '0' && c <= '9';
      boolean small = c >= 'a' && c <= 'z';
      due("rule of byte " + b + " and bar", ruleAnswer(c + "bar 1=1"), c == ' ' ? 0 : fault(0, 0));
      int behindBar = c == ' ' || digit || c == '[' ? -1 : small ? fault(0, 0) : fault(3, 0);
      if (behindBar != -1) due("rule of bar and byte " + b, ruleAnswer("bar" + c + " 1=1"), behindBar);
      boolean joins = c == ';' || c == '+' || c == '-' || c == '*' || c == '/' || c == '%';
      due("rule and byte " + b, ruleAnswer("bar 1=1" + c), c == ' ' || digit ? 0 : joins ? fault(8, 0) : fault(7, 0));
      boolean sign = c == '<' || c == '=' || c == '>';
      boolean reckons = c == '+' || c == '-' || c == '*' || c == '/' || c == '%';
      int between = sign ? 0 : reckons ? fault(7, 0) : c == ' ' ? fault(6, 0) : digit ? fault(7, 0) : fault(5, 0);
      due("1, byte " + b + ", 1", ruleAnswer("bar 1" + c + "1"), between);
    }
  }

  private static void bytesAndWords() {
    says("0 a byte or word that can't stand there");
    ruleFault("road", 0, 0);
    ruleFault("1=1", 0, 0);
    ruleFault("bar bar 1=1", 4, 0);
    ruleFault("bar 1=1 bar 1=1", 8, 0);
    ruleFault("bar 1=1;1=1", 8, 0);
    ruleFault("bar 1=1;;bar 1=1", 8, 0);
    ruleFault("bar 1=1,bar 1=1", 7, 0);
    ruleFault("bar 1=1;bar", 11, 0);
    ruleFault("bar ;bar 1=1", 4, 0);
  }

  private static void endsOfTexts() {
    says("or the end (behind the last byte");
    ruleFault("", 0, 0);
    ruleFault("   ", 3, 0);
    ruleFault("bar", 3, 0);
    ruleFault("bar  ", 5, 0);
    ruleFault("bar 1", 5, 0);
    ruleFault("bar 1 ", 6, 0);
    ruleFault("bar 1=", 6, 0);
    ruleFault("bar 1<=", 7, 0);
    ruleFault("bar 1=1+", 8, 0);
    ruleFault("bar 1=1 or ", 11, 0);
    ruleFault("bar 1=1 and  ", 13, 0);
    ruleFault("bar not", 7, 0);
    ruleFault("bar [", 5, 0);
    ruleFault("bar [1=1 ", 9, 0);
    ruleFault("bar 1=1;", 8, 0);
    ruleFault("bar 1=1; ", 9, 0);
    ruleFault(" ".repeat(400), 400, 0);
    ruleFault(" ".repeat(394) + "bar 1=", 400, 0);
  }

  private static void numbersTooLong() {
    says("1 a NUMBER of more digits (5 at most), or not as told (at it)");
    ruleFault("bar 100000=1", 4, 1);
    ruleFault("bar 000000=1", 4, 1);
    ruleFault("bar 1=  000001", 8, 1);
    ruleFault("bar 1+123456=1", 6, 1);
    ruleFault("bar 4294967297=1", 4, 1);
    ruleFault("bar " + "9".repeat(396), 4, 1);
    ruleStands("bar 12345=67890");
  }

  private static void tooDeep() {
    says("2 too deep (at the sign that opens, or the word not)");
    ruleFault("bar " + "[".repeat(11) + "1=1", 14, 2);
    ruleFault("bar " + "[".repeat(11), 14, 2);
    ruleFault("bar " + "not ".repeat(11) + "1=1", 44, 2);
    ruleFault("bar " + "not ".repeat(10) + "[1=1]", 44, 2);
    ruleFault("bar " + "[".repeat(10) + "  not 1=1", 16, 2);
    ruleFault("bar " + "[".repeat(10) + "1=1 or [1=1", 21, 2);
    ruleFault("bar " + "[".repeat(10) + "1=1 and not 1=1", 22, 2);
    ruleFault("bar 1=1;bar " + "[".repeat(12), 22, 2);
    ruleFault("bar " + "[".repeat(10) + "1=1]or[1=1]or[[", 28, 2);
  }

  private static void tooMany() {
    says("3 one VALUE or FACT too many (at its first byte; of a FACT at its SIGN)");
    ruleFault("bar " + values(61) + "=1", 4 + 2 * 60, 3);
    ruleFault("bar " + values(60) + "=1", 4 + 2 * 60 - 1, 3);
    ruleFault("bar " + values(60) + "  <=1", 4 + 2 * 60 + 1, 3);
    ruleFault("bar " + values(59) + "=1", 4 + 2 * 59, 3);
    ruleFault("bar " + values(59) + "=  minute", 4 + 2 * 59 + 2, 3);
    ruleFault("bar " + values(58) + "=1+ bridges", 4 + 2 * 58 + 3, 3);
    ruleFault("bar " + values(58) + "=1 or 1=1", 4 + 2 * 58 + 5, 3);
    ruleFault("bar " + values(58) + "=1;bar over=1", 4 + 2 * 58 + 6, 3);
    ruleFault("bar " + values(57) + "=1;bar over=1", 4 + 2 * 57 + 10, 3);
    ruleFault("bar " + values(56) + "=1;bar over=1", 4 + 2 * 56 + 11, 3);
    ruleStands("bar " + values(55) + "=1;bar over=1");
    ruleFault("bar " + values(55) + "=1;bar over=1*1", 4 + 2 * 55 + 13, 3);
    KnotTown x = new KnotTown();
    due("a rule of 60", ruleOf(x, "bar " + values(58) + "=1"), 0);
    due("another of 60", ruleOf(x, "bar " + values(58) + "=1"), 1);
  }

  private static void thirteenthClause() {
    says("4 a thirteenth CLAUSE (at its first byte)");
    String twelve = "bar 1=1" + ";bar 1=1".repeat(11);
    ruleStands(twelve);
    ruleFault(twelve + ";bar 1=1", 96, 4);
    ruleFault(twelve + ";   bar", 99, 4);
    ruleFault(twelve + " ;bar 1=1;bar 1=1", 97, 4);
    ruleFault(twelve + ";", 96, 0);
    ruleFault(twelve + ";bars 1=1", 96, 0);
  }

  private static void firstAlongTheText() {
    says("the first along the text");
    ruleFault("bar 100000=?", 4, 1);
    ruleFault("bar ?=100000", 4, 0);
    ruleFault("bar 1=1 ? 100000", 8, 0);
    ruleFault("bar " + "[".repeat(11) + "100000", 14, 2);
    ruleFault("bar " + "[".repeat(9) + "100000" + "[", 13, 1);
    ruleFault("bar " + values(61) + "=100000", 124, 3);
    ruleFault("bar 1=1" + ";bar 1=1".repeat(12) + "?", 96, 4);
    ruleFault("bar 1=1" + ";bar 1=1".repeat(11) + "?;bar 1=1", 95, 0);
  }

  private static void leastOfOnePlace() {
    says("Of one place the least.");
    ruleFault("bar " + values(60) + "+100000", 124, 1);
    ruleFault("bar " + values(60) + "+x", 124, 0);
    ruleFault("bar " + values(60) + "+", 124, 0);
    ruleFault("bar " + values(60), 123, 0);
    ruleFault("bar " + values(60) + "?", 123, 0);
    ruleFault("bar " + values(60) + "+]", 124, 0);
    ruleFault("bar 1=1" + ";bar 1=1".repeat(11) + ";?", 96, 0);
    ruleFault("bar 1=1" + ";bar 1=1".repeat(11) + ";bat", 96, 0);
  }

  private static void tapeBehindARule() {
    says("The TAPE, which is empty then, is a RULE: its number; -2 - its FAULT");
    KnotTown x = townOf(KINK);
    due("rule()", ruleOf(x, "bar through=0"), 0);
    due("tape", x.count(9), 0);
    due("rule() of an empty tape", x.rule(), fault(0, 0));
    String before = state(x);
    due("rule() with a fault", ruleOf(x, "bar 1=1;"), fault(8, 0));
    due("tape", x.count(9), 0);
    due("rules", x.count(6), 1);
    stays("rules with faults", x, before);
    due("rule()", ruleOf(x, "bar 1=1"), 1);
    due("none is in force by it", x.count(7), -1);
    x.force(0);
    due("rule()", ruleOf(x, "bar 1=2"), 2);
    due("in force", x.count(7), 0);
  }

  private static void force() {
    says("A RULE is IN FORCE (NONE: none): which was; -2, and nothing happens, if there is none such.");
    KnotTown x = townOf(KINK);
    due("force(-1)", x.force(-1), -1);
    for (int rule : new int[] {0, 1, 5, 6, -2, -3, MIN, MAX}) due("force(" + rule + ")", x.force(rule), -2);
    for (int i = 0; i < 6; i++) {
      due("force(" + i + ") of " + i, x.force(i), -2);
      ruleOf(x, "bar minute<=" + i);
    }
    due("force(5)", x.force(5), -1);
    String before = state(x);
    for (int rule : new int[] {6, 7, -2, -3, MIN, MAX}) due("force(" + rule + ")", x.force(rule), -2);
    stays("rules that are none", x, before);
    due("in force", x.count(7), 5);
    due("force(0)", x.force(0), 5);
    due("force(0) again", x.force(0), 0);
    due("force(-1)", x.force(-1), 0);
    due("in force", x.count(7), -1);
    due("gossip without a rule", x.gossip(0, 1), 3);
  }
}
