/** The edges of what a law says: bounds, 32 bits, what is refused, how much is asked, what names stand for. */
final class LawEdges {
  private static final String TERMS = "Terms";

  private LawEdges() {
  }

  static void all(Edges e) {
    mendingTenths(e);
    spoilingTenths(e);
    inkAMoon(e);
    anyX(e);
    withoutAnX(e);
    firstThatHolds(e);
    beyondBounds(e);
    parts(e);
    compares(e);
    fromTheLeft(e);
    names(e);
    rankNames(e);
    letterNames(e);
    inkNames(e);
    moonNames(e);
    bits(e);
    refusedConditions(e);
    refusedAmounts(e);
    asMuchAsMatters(e);
    longest(e);
    deepest(e);
    inPlace(e);
  }

  /** Courtier 0, aged 20, with 1000 of ink: how much comes with that law. */
  private static int comes(String law) {
    CourtHand x = new CourtHand();
    x.courtier(0, 20, 1000);
    int rules = Scene.law(x, law);
    return rules < 1 ? rules : x.tried(1, 30) - 1000;
  }

  private static void hold(Edges e, String... conditions) {
    for (String c : conditions) {
      e.due(c + " holds", comes("i7(" + c + ")"), 7);
    }
  }

  private static void fail(Edges e, String... conditions) {
    for (String c : conditions) {
      e.due(c + " does not hold", comes("i7(" + c + ")"), 0);
    }
  }

  private static void mendingTenths(Edges e) {
    e.says(TERMS, "p tenths that one mends a FORM (0 to 10)");
    for (int p = 0; p <= 10; p++) {
      CourtHand x = Scene.scribe(Scene.BAR ^ 1);
      Scene.law(x, "p" + p + "(1=1)");
      for (int draw = 0; draw <= 9; draw++) {
        x.seed(Scene.seedFor(draw));
        e.due("p" + p + " with a draw of " + draw, x.tried(1, 0), draw < p ? 1 : 0);
      }
    }
  }

  private static void spoilingTenths(Edges e) {
    e.says(TERMS, "w tenths that it is spoiled (0 to 10)");
    for (int w = 0; w <= 10; w++) {
      CourtHand x = Scene.scribe(Scene.BAR);
      Scene.law(x, "w" + w + "(1=1)");
      for (int draw = 0; draw <= 9; draw++) {
        x.seed(Scene.seedFor(9 - draw, draw));
        e.due("w" + w + " with a draw of " + draw, x.tried(1, 1), draw < w ? 1 : 0);
      }
    }
  }

  private static void inkAMoon(Edges e) {
    e.says(TERMS, "i INK that one gets in a MOON (0 to 99)");
    for (int i : new int[] {0, 1, 50, 98, 99}) {
      e.due("i" + i, comes("i" + i + "(1=1)"), i);
    }
    e.due("i100", comes("i100(1=1)"), 99);
    e.due("i99999", comes("i99999(1=1)"), 99);
    e.due("below 0", comes("i0-1(1=1)"), 0);
  }

  private static void anyX(Edges e) {
    e.says(TERMS, "x one does not practise (any will do");
    CourtHand x = Scene.letters();
    x.courtier(0, 0, 100);
    Object[][] rows = {{"x(1=1)", 0}, {"x(1=2)", 18}, {"x(1=2);x(1=1)", 0}, {"x(1=1);x(1=2)", 0}, {"x(1=2);x(1=2)", 18},
      {"x(k=0);x(k=2)", 5}, {"x(1=2);".repeat(15) + "x(1=1)", 0}, {"x(1/0=1);x(k=1)", 13}};
    for (Object[] row : rows) {
      Scene.law(x, (String) row[0]);
      e.due((String) row[0], x.tried(1, 2), (Integer) row[1]);
    }
  }

  private static void withoutAnX(Edges e) {
    e.says(TERMS, "without an x in THE LAW all do");
    CourtHand x = Scene.letters();
    x.courtier(0, 0, 100);
    e.due("no law", x.tried(1, 2), 18);
    Scene.law(x, "p0(1=2);w0(1=2);i0(1=2)");
    e.due("no x", x.tried(1, 2), 18);
    Scene.law(x, "x(1=1)");
    e.due("an x", x.tried(1, 2), 0);
  }

  private static void firstThatHolds(Edges e) {
    e.says(TERMS, "of the first RULE of p, w, i whose C holds the E");
    e.due("the first", comes("i5(1=1);i6(1=1)"), 5);
    e.due("the second", comes("i5(1=2);i6(1=1);i7(1=1)"), 6);
    e.due("the last of 16", comes("i5(1=2);".repeat(15) + "i6(1=1)"), 6);
    e.due("others' rules aside", comes("p9(1=1);w8(1=1);x(1=1);i6(1=1)"), 6);
    e.due("even if it says 0", comes("i0(1=1);i6(1=1)"), 0);
    CourtHand x = Scene.scribe(Scene.BAR ^ 1);
    x.seed(Scene.seedFor(0, 9));
    Scene.law(x, "w10(1=1);i9(1=1);p0(1=1);p10(1=1)");
    e.due("p: the first", x.tried(1, 0), 0);
    Scene.law(x, "p0(1=2);p10(1=1);w0(1=1);w10(1=1)");
    e.due("p: the second", x.tried(1, 0), 1);
    e.due("w: the first", x.tried(1, 1), 0);
    Scene.law(x, "w0(1=2);w10(1=1);p10(1=1)");
    e.due("w: the second", x.tried(1, 1), 1);
  }

  private static void beyondBounds(Edges e) {
    e.says(TERMS, "(beyond its bounds the bound; none: 0)");
    e.due("i of the largest number", comes("i65536*32768-1(1=1)"), 99);
    e.due("i of the least number", comes("i65536*32768(1=1)"), 0);
    e.due("i where none holds", comes("i9(1=2)"), 0);
    CourtHand x = Scene.scribe(Scene.BAR ^ 1);
    Object[][] rows = {{"p11(1=1);w11(1=1)", 9, 1}, {"p99999(1=1);w99999(1=1)", 9, 1}, {"p0-1(1=1);w0-1(1=1)", 0, 0},
      {"p65536*32768(1=1);w65536*32768(1=1)", 0, 0}, {"p65536*32768-1(1=1);w65536*32768-1(1=1)", 9, 1},
      {"p10(1=2);w10(1=2)", 0, 0}, {"i9(1=1)", 0, 0}};
    for (Object[] row : rows) {
      Scene.law(x, (String) row[0]);
      x.seed(Scene.seedFor((Integer) row[1]));
      e.due("mended by " + row[0], x.tried(1, 0), (Integer) row[2]);
      x.seed(Scene.seedFor(-1, (Integer) row[1]));
      e.due("spoiled by " + row[0], x.tried(1, 1), (Integer) row[2]);
    }
  }

  private static void parts(Edges e) {
    e.says(TERMS, "one of which must hold; a PART: TESTS with an & between two, all of which must");
    hold(e, "1=1|1=2", "1=2|1=1", "1=2|1=2|1=1", "1=1&1=1", "1=1&1=1&1=1", "1=2&1=1|1=1", "1=1|1=1&1=2", "1=1|1=2&1=2",
        "(1=2|1=1)&1=1", "!1=2", "!2<1", "!1>2", "!!1=1", "!!1<2", "!!2>1", "!(1=1&1=2)", "!1=1|1=1", "!1=2&1=1");
    fail(e, "1=2|1=2", "1=2|1=2|1=2", "1=1&1=2", "1=2&1=1", "1=1&1=1&1=2", "(1=1|1=1)&1=2", "1=2&(1=1|1=1)", "!1=1",
        "!!1=2", "!(1=1|1=2)", "!1=1&1=1", "!1=2&1=2");
  }

  private static void compares(Edges e) {
    e.says(TERMS, "one of < > =, and E");
    hold(e, "1<2", "2>1", "2=2", "0-1<0", "0>0-1", "65536*32768<65536*32768-1");
    fail(e, "2<2", "3<2", "2>2", "1>2", "1=2", "2=1", "65536*32768>65536*32768-1", "!1<2", "!2>1", "!2=2");
  }

  private static void fromTheLeft(Edges e) {
    e.says(TERMS, "FACTORS with one of * / % between two; from the left on");
    hold(e, "10-3-2=5", "10-3+2=9", "20/2/5=2", "8/4*2=4", "7*3%4=1", "20%7*2=12", "2+3*4=14", "2*3+4=10", "20-6/2=17",
        "[2+3]*4=20", "2*[3+4]=14", "20/[2*5]=2", "100%7%2=0", "1+2-3+4-5=0-1");
  }

  private static void names(Edges e) {
    e.says(TERMS, "c the COURTIER, a AGE, l INK");
    CourtHand x = new CourtHand();
    x.courtier(0, 0, 0);
    x.courtier(9, 99, 50);
    Scene.law(x, "ic+a+l+20(1=1)");
    e.due("of 0", x.tried(1, 30), 20);
    Scene.law(x, "ic(1=1)");
    e.due("c of 9", x.tried(1, 39), 59);
    Scene.law(x, "ia(1=1)");
    e.due("a of 9", x.tried(1, 39), 149);
    Scene.law(x, "il(1=1)");
    e.due("l of 9", x.tried(1, 39), 100);
    e.due("l of 9 in a second moon", x.tried(2, 39), 199);
  }

  private static void rankNames(Edges e) {
    e.says(TERMS, "g RANK (as the MOON began), s FAULTS of all his FORMS");
    CourtHand x = Scene.letters();
    x.courtier(0, 10, 100);
    x.courtier(1, 10, 100);
    x.form(0, 0, Scene.BAR ^ 1);
    Scene.law(x, "ig+1(1=1);x(1=1)");
    e.due("g of 0", x.tried(1, 30), 102);
    e.due("g of 1", x.tried(1, 31), 101);
    Scene.law(x, "ig+1(1=1);x(c=1);p10(1=1)");
    e.due("g of 1, though 0 is ahead by now", x.tried(1, 31), 101);
    e.due("g of 1 in the next moon", x.tried(2, 31), 103);
    Scene.law(x, "is+1(1=1);x(1=1)");
    e.due("s of 0", x.tried(1, 30), 102);
    e.due("s of 1", x.tried(1, 31), 101);
    Scene.law(x, "p10(k=0);x(c=1);x(k=1&s=0)");
    e.due("s is less when a form is mended", x.tried(1, 2), 4 + 8);
    Scene.law(x, "w10(k=0);x(c=1);x(k=1&!s=1)");
    e.due("s is another when a form is spoiled", x.tried(1, 2), 4 + 8);
  }

  private static void letterNames(Edges e) {
    e.says(TERMS, "k the LETTER, f FAULTS of its FORM, d how many dots of it are black (k, f, d in p, w, x");
    CourtHand x = new CourtHand();
    x.model(0, 0);
    x.model(7, Scene.ALL);
    x.courtier(0, 10, 100);
    x.form(0, 0, 3);
    x.form(0, 7, Scene.ALL ^ 7);
    String[] first = {"k=0", "f=2", "d=2", "k<1", "f<3", "d<3"};
    String[] last = {"k=7", "f=3", "d=22", "k>6", "f>2", "d>21"};
    for (int i = 0; i < first.length; i++) {
      Scene.law(x, "x(" + first[i] + ")");
      e.due("x by " + first[i], x.tried(1, 2), 22);
      Scene.law(x, "x(" + last[i] + ")");
      e.due("x by " + last[i], x.tried(1, 2), 2);
      Scene.law(x, "p10(" + first[i] + ");x(k=7)");
      e.due("p by " + first[i], x.tried(1, 0), 1);
      Scene.law(x, "p10(" + last[i] + ");x(k=0)");
      e.due("p by " + last[i], x.tried(1, 0), 1);
      Scene.law(x, "w10(" + first[i] + ");x(k=7)");
      e.due("w by " + first[i], x.tried(1, 1), 1);
      Scene.law(x, "w10(" + last[i] + ");x(k=0)");
      e.due("w by " + last[i], x.tried(1, 1), 1);
    }
  }

  private static void inkNames(Edges e) {
    e.says(TERMS, "in i 0), m THE MOON modulo 12");
    CourtHand x = new CourtHand();
    for (int k = 0; k < 8; k++) {
      x.model(k, 0);
    }
    x.courtier(0, 10, 500);
    x.courtier(1, 10, 500);
    for (int k = 0; k < 8; k++) {
      x.form(0, k, Scene.BAR);
    }
    Scene.law(x, "ik+f+d+3(1=1);x(1=1)");
    e.due("k, f, d are 0", x.tried(1, 30), 503);
    e.due("and for the next one", x.tried(1, 31), 503);
    e.due("and in the next moon", x.tried(2, 30), 506);
    Scene.law(x, "i9(k=0&f=0&d=0)");
    e.due("behind a courtier who practised", x.tried(1, 31), 509);
  }

  private static void moonNames(Edges e) {
    e.says(TERMS, "m THE MOON modulo 12");
    CourtHand x = new CourtHand();
    x.courtier(0, 10, 0);
    int ink = 0;
    Scene.law(x, "im(1=1)");
    for (int moon = 0; moon < 26; moon++) {
      x.moons(1);
      ink += moon % 12;
      e.due("m in moon " + moon, x.courtierIs(0, 1), ink);
    }
  }

  private static void bits(Edges e) {
    e.says(TERMS, "All is reckoned with 32 bits, as the machine does");
    hold(e, "65536*32767+65535>0", "65536*32767+65536<0", "65536*32768<0", "65536*32768-1>0", "65536*65536=0",
        "65536*65535=0-65536", "0-65536*32768=65536*32768", "99999*99999-14098*10*10000=65409",
        "[65536*32768]/[0-1]=65536*32768", "[65536*32768]%[0-1]=0", "[0-7]/2=0-3", "[0-7]%2=0-1", "7/[0-2]=0-3",
        "7%[0-2]=1", "[0-1]/2=0", "1/2=0");
  }

  private static void refusedConditions(Edges e) {
    e.says(TERMS, "what is divided by 0 is REFUSED: then the whole C of the RULE does not hold");
    fail(e, "1/0=1", "1/0=0", "1%0=0", "0/0=0", "0%0=0", "1/0<1|1=1", "1%0=1|1=1", "!1/0=1", "!(1/0=1)", "!!1%0=0", "(1/0=1)|1=1",
        "1=1&1/0=0|1=1", "1/[a-20]=1|1=1", "1/c=1|1=1", "1=1/0|1=1", "5+0*[1/0]=5|1=1", "[1/0]=1|1=1", "!(1=1&!1/0=0)|1=1");
    hold(e, "1/1=1", "1%1=0", "0/1=0", "1/[a-19]=1", "1/[a-21]=0-1", "0/[0-1]=0", "1/[c+1]=1");
    e.due("the next rule is asked", comes("i5(1/0=1|1=1);i6(1=1)"), 6);
    e.due("the one before too", comes("i5(1=2);i6(1/0=1);i7(1=1)"), 7);
    CourtHand x = Scene.scribe(Scene.BAR);
    Scene.law(x, "x(1/0=1|1=1)");
    e.due("an x does not hold", x.tried(1, 2), 5);
  }

  private static void refusedAmounts(Edges e) {
    e.says(TERMS, "the E of it is 0");
    e.due("i1/0", comes("i1/0(1=1)"), 0);
    e.due("i1%0", comes("i1%0(1=1)"), 0);
    e.due("all of the E", comes("i50+1/0(1=1)"), 0);
    e.due("all of it, behind too", comes("i1/0+50(1=1)"), 0);
    e.due("in brackets", comes("i50-[9*[1%c]](1=1)"), 0);
    e.due("its C holds: no other rule", comes("i1/0(1=1);i6(1=1)"), 0);
    e.due("its C does not", comes("i1/0(1=2);i6(1=1)"), 6);
    e.due("just not 0", comes("i50+1/[c+1](1=1)"), 51);
    CourtHand x = Scene.scribe(Scene.BAR ^ 1);
    Scene.law(x, "p10+1/0(1=1);w10+1/0(1=1)");
    x.seed(Scene.seedFor(0));
    e.due("p is 0", x.tried(1, 0), 0);
    x.seed(Scene.seedFor(-1, 0));
    e.due("w is 0", x.tried(1, 1), 0);
    Scene.law(x, "p10+1/1(1=1);w10+1/1(1=1)");
    e.due("p is not", x.tried(1, 0), 1);
    e.due("w is not", x.tried(1, 1), 1);
  }

  private static void asMuchAsMatters(Edges e) {
    e.says(TERMS, "Of a C as much is asked, from the left, as matters.");
    hold(e, "1=1|1/0=1", "1=1|1=2|1/0=1", "1=2|1=1|1/0=1", "1=2&1/0=1|1=1", "1=2&1=1&1/0=1|1=1", "1=1&1=2&1/0=1|1=1",
        "(1=1|1/0=1)&1=1", "!(1=2&1/0=1)", "1=2&(1/0=1)|1=1", "1=2&!1/0=1|1=1", "1=2&(1=1|1/0=1)|1=1", "1=1|(1/0=1)",
        "1=1|1=1&1/0=1", "!1=1&1/0=1|1=1", "((1=1|1/0=1)|1/0=1)&1=1", "1=1|!(1/0=1)&1/0=1");
    fail(e, "1=2|1/0=1|1=1", "1=1&1/0=1|1=1", "1/0=1&1=2|1=1", "1/0=1|1=1", "(1=2|1/0=1)|1=1", "!(1=1&1/0=1)|1=1",
        "1=2&1=2|1/0=1|1=1", "(1=1|1/0=1)&1/0=1|1=1", "1=2&1/0=1", "!(1=1|1/0=1)");
  }

  private static void longest(Edges e) {
    e.says(TERMS, "THE LAW: a TEXT of at most 240 bytes");
    hold(e, "1=1&".repeat(58) + "1=1", "1=2|".repeat(58) + "1=1", "1=1&1=2|".repeat(29) + "1=1", "1+".repeat(115) + "1=116");
    fail(e, "1=1&".repeat(58) + "1=2", "1=2|".repeat(58) + "1=2", "1=1&1=2|".repeat(29) + "1=2", "1+".repeat(115) + "1=115");
    e.due("a long E", comes("i" + "1+".repeat(80) + "1(1=1)"), 81);
  }

  private static void deepest(Edges e) {
    e.says(TERMS, "5 a seventh of ( [ ! that are open in one another, at it");
    e.due("six in an E", comes("i1+1*[1+1*[1+1*[1+1*[1+1*[1+1*[1+1*2]]]]]](1=1)"), 9);
    hold(e, "1+1*[1+1*[1+1*[1+1*[1+1*[1+1*2]]]]]=1+1*[1+1*[1+1*[1+1*[1+1*[1+1*2]]]]]", "((((1+1*[1+1*2]=4))))", "!!!!1+1*[1+1*2]=4",
        "!(!(1+1*[1+1*2]=4))");
    fail(e, "1+1*[1+1*[1+1*[1+1*[1+1*[1+1*2]]]]]=1+1*[1+1*[1+1*[1+1*[1+1*[1+1*3]]]]]", "((((1+1*[1+1*2]=5))))", "!!!1+1*[1+1*2]=4",
        "!(!(1+1*[1+1*2]=5))");
  }

  private static void inPlace(Edges e) {
    e.says("Promise 6:", "in place of the one before: how many RULES");
    CourtHand x = Scene.scribe(Scene.BAR ^ 1);
    for (int i = 0; i < 3; i++) {
      Scene.law(x, "i1(1=1);x(1=1);i2(1=1);p10(1=1);w10(1=1)");
      e.due("with an x", x.tried(1, 30), 5001);
    }
    e.due("one rule", Scene.law(x, "i3(1=2)"), 1);
    e.due("no i, no x of the one before", x.tried(1, 30), 4996);
    e.due("no p of the one before", x.tried(60, 0), 0);
    e.due("no w of the one before", x.tried(60, 1), 0);
    for (int i = 0; i < 20; i++) {
      e.due("a long law", Scene.law(x, "i" + i + "(" + "1=1&".repeat(57) + "1=1)"), 1);
      e.due("long law " + i, x.tried(1, 30), 4996 + i);
    }
  }
}
