/** The edges of a moon: ink, draws, dots, ages, the last moon. */
final class MoonEdges {
  private static final String TERMS = "Terms";

  private MoonEdges() {
  }

  static void all(Edges e) {
    courtiersByNumbers(e);
    inkIsMore(e);
    inkComesFirst(e);
    lettersByNumbers(e);
    tooLittleInk(e);
    drawBelow(e);
    askedAhead(e);
    lowestDot(e);
    alikeNothing(e);
    twoDrawsMore(e);
    moduloTwentyFive(e);
    theMoon(e);
    ages(e);
    oldest(e);
    lastMoon(e);
    draws(e);
  }

  private static int behind(int seed, int draws) {
    int x = seed;
    for (int i = 0; i < draws; i++) {
      x = Scene.next(x);
    }
    return x;
  }

  private static void courtiersByNumbers(Edges e) {
    e.says(TERMS, "A MOON: each told COURTIER, by numbers");
    CourtHand x = new CourtHand();
    x.model(0, 0);
    x.courtier(9, 99, 100);
    x.courtier(0, 0, 100);
    x.form(9, 0, 1);
    x.form(0, 0, 1);
    Scene.law(x, "p5(1=1)");
    x.seed(Scene.seedFor(0, -1, 8));
    e.due("0 mends first", x.tried(1, 10), 0);
    e.due("9 behind him", x.tried(1, 19), 1);
    x.seed(Scene.seedFor(8, -1, 0));
    e.due("0 does not", x.tried(1, 10), 1);
    e.due("9 does", x.tried(1, 19), 0);
    int seed = x.count(6);
    x.moons(1);
    e.due("those not told draw none", x.count(6), behind(seed, 4));
  }

  private static void inkIsMore(Edges e) {
    e.says(TERMS, "(1) INK is more by i (9999 at most)");
    CourtHand x = new CourtHand();
    Scene.law(x, "i50(1=1)");
    for (int ink : new int[] {0, 9948, 9949, 9950, 9998, 9999}) {
      x.courtier(0, 0, ink);
      e.due("of " + ink, x.tried(1, 30), Math.min(9999, ink + 50));
    }
    x.courtier(0, 0, 9949);
    e.due("mended", x.moons(1), 0);
    e.due("just 9999", x.courtierIs(0, 1), 9999);
    x.moons(1);
    e.due("still 9999", x.courtierIs(0, 1), 9999);
  }

  private static void inkComesFirst(Edges e) {
    e.says(TERMS, "(1) INK is more by i");
    CourtHand x = Scene.scribe(Scene.BAR);
    x.courtier(0, 0, 0);
    Scene.law(x, "i5(1=1)");
    e.due("5 come, 5 are used", x.tried(1, 2), 5);
    Scene.law(x, "i4(1=1)");
    e.due("4 come, 5 are wanted", x.tried(1, 2), 0);
    x.courtier(0, 0, 9999);
    Scene.law(x, "i99(1=1)");
    e.due("9999 at most, ahead of the use", x.tried(1, 30), 9994);
  }

  private static void lettersByNumbers(Edges e) {
    e.says(TERMS, "(2) Each LETTER with a MODEL, by numbers");
    CourtHand x = new CourtHand();
    x.model(7, 0);
    x.model(0, 0);
    x.courtier(3, 0, 100);
    x.form(3, 0, 1);
    x.form(3, 7, 2);
    Scene.law(x, "p5(1=1)");
    x.seed(Scene.seedFor(0, -1, 8));
    int seed = x.count(6);
    e.due("one is mended", x.moons(1), 1);
    e.due("A", x.formOf(3, 0), 0);
    e.due("not H", x.formOf(3, 7), 2);
    e.due("two draws a letter with a model", x.count(6), behind(seed, 4));
    x.courtier(3, 0, 2);
    x.form(3, 0, 3);
    x.form(3, 7, 1);
    e.due("ink for A alone", x.tried(1, 2), 2);
    x.form(3, 0, 7);
    e.due("not for A, but for H", x.tried(1, 2), 1);
  }

  private static void tooLittleInk(Edges e) {
    e.says(TERMS, "does x hold, or is there less INK than the FORM has black dots, nothing; else INK is less by these");
    int[] forms = {0, 1, Scene.BAR, Scene.ALL};
    for (int form : forms) {
      int black = Integer.bitCount(form);
      CourtHand x = Scene.scribe(form);
      for (int ink = Math.max(0, black - 1); ink <= black + 1; ink++) {
        x.courtier(0, 0, ink);
        x.form(0, 0, form);
        x.seed(5);
        x.moons(1);
        boolean enough = ink >= black;
        e.due(ink + " of ink for " + black, x.courtierIs(0, 1), enough ? ink - black : ink);
        e.due("draws with " + ink + " for " + black, x.count(6), enough ? behind(5, 2) : 5);
      }
    }
    CourtHand x = Scene.scribe(Scene.BAR ^ 1);
    Scene.law(x, "x(1=1);p10(1=1);w10(1=1)");
    x.seed(5);
    e.due("x holds: nothing is mended", x.moons(1), 0);
    e.due("x holds: no ink", x.courtierIs(0, 1), 5000);
    e.due("x holds: no draws", x.count(6), 5);
    e.due("x holds: nothing is spoiled", x.formOf(0, 0), Scene.BAR ^ 1);
  }

  private static void drawBelow(Edges e) {
    e.says(TERMS, "with a DRAW below p");
    CourtHand x = Scene.scribe(Scene.BAR ^ 1);
    Scene.law(x, "p4(1=1)");
    x.seed(Scene.seedFor(3));
    e.due("3 is below 4", x.tried(1, 0), 1);
    x.seed(Scene.seedFor(4));
    e.due("4 is not", x.tried(1, 0), 0);
    int seed = x.count(6);
    x.moons(1);
    e.due("one draw for p, one for w", x.count(6), behind(seed, 2));
  }

  private static void askedAhead(Edges e) {
    e.says(TERMS, "(p, w asked with x, ahead of all that)");
    CourtHand x = Scene.scribe(Scene.BAR ^ 1);
    Object[][] rows = {{"p10(l=5000);w10(l=5000)", 1, 1}, {"p10(l<5000);w10(l<5000)", 0, 0}, {"p10(f=1);w10(f=1)", 1, 1},
      {"p10(1=1);w10(f=0)", 1, 0}, {"p10(s=1);w10(s=1)", 1, 1}, {"p10(d=4);w10(d=4)", 1, 1}, {"i9(1=1);p10(l=5009);w10(l=5009)", 1, 1}};
    for (Object[] row : rows) {
      Scene.law(x, (String) row[0]);
      e.due("mended by " + row[0], x.tried(1, 0), (Integer) row[1]);
      e.due("spoiled by " + row[0], x.tried(1, 1), (Integer) row[2]);
    }
  }

  private static void lowestDot(Edges e) {
    e.says(TERMS, "the lowest dot in which FORM and MODEL are not alike is mended");
    CourtHand x = Scene.scribe(Scene.BAR ^ (1 << 3 | 1 << 7 | 1 << 24));
    Scene.law(x, "p10(1=1)");
    e.due("one in a moon", x.moons(1), 1);
    e.due("dot 3", x.formOf(0, 0), Scene.BAR ^ (1 << 7 | 1 << 24));
    e.due("one more", x.moons(1), 1);
    e.due("dot 7", x.formOf(0, 0), Scene.BAR ^ 1 << 24);
    e.due("the last", x.moons(1), 1);
    e.due("dot 24", x.formOf(0, 0), Scene.BAR);
    x.form(0, 0, Scene.BAR ^ 1);
    x.moons(1);
    e.due("dot 0", x.formOf(0, 0), Scene.BAR);
    x.form(0, 0, Scene.ALL ^ Scene.BAR);
    e.due("all 25", x.moons(30), 25);
  }

  private static void alikeNothing(Edges e) {
    e.says(TERMS, "(are they alike: nothing)");
    CourtHand x = Scene.scribe(Scene.BAR);
    Scene.law(x, "p10(1=1)");
    x.seed(9);
    e.due("nothing is mended", x.moons(1), 0);
    e.due("the form stays", x.formOf(0, 0), Scene.BAR);
    e.due("ink is used", x.courtierIs(0, 1), 4995);
    e.due("draws go by", x.count(6), behind(9, 2));
  }

  private static void twoDrawsMore(Edges e) {
    e.says(TERMS, "with another DRAW below w a dot changes: with two DRAWS more");
    CourtHand x = Scene.scribe(Scene.BAR);
    Scene.law(x, "w4(1=1)");
    x.seed(Scene.seedFor(-1, 3, 0, 7));
    int seed = x.count(6);
    e.due("3 is below 4", x.tried(1, 1), 1);
    x.moons(1);
    e.due("four draws", x.count(6), behind(seed, 4));
    e.due("dot 7 is black", x.formOf(0, 0), Scene.BAR | 1 << 7);
    x.seed(Scene.seedFor(-1, 4));
    seed = x.count(6);
    e.due("4 is not", x.tried(1, 1), 0);
    x.moons(1);
    e.due("two draws", x.count(6), behind(seed, 2));
    x.seed(Scene.seedFor(-1, 1, 0, 7));
    x.moons(1);
    e.due("dot 7 is white", x.formOf(0, 0), Scene.BAR);
  }

  private static void moduloTwentyFive(Edges e) {
    e.says(TERMS, "10 times the first and the second, modulo 25");
    int[][] rows = {{0, 1, 1}, {1, 0, 10}, {0, 9, 9}, {2, 3, 23}, {2, 5, 0}, {2, 7, 2}, {4, 9, 24}, {5, 0, 0}, {7, 4, 24}, {7, 6, 1},
      {9, 8, 23}};
    for (int[] row : rows) {
      CourtHand x = Scene.scribe(0);
      Scene.law(x, "w10(1=1)");
      x.seed(Scene.seedFor(-1, -1, row[0], row[1]));
      x.moons(1);
      e.due("draws " + row[0] + " and " + row[1], x.formOf(0, 0), 1 << row[2]);
    }
  }

  private static void theMoon(Edges e) {
    e.says(TERMS, "THE MOON is one more");
    CourtHand x = new CourtHand();
    for (int moon = 1; moon <= 13; moon++) {
      x.moons(1);
      e.due("nobody told", x.count(0), moon);
    }
    x.moons(60);
    e.due("sixty more", x.count(0), 73);
  }

  private static void ages(Edges e) {
    e.says(TERMS, "is it a multiple of 12 then, all AGES are one more");
    CourtHand x = new CourtHand();
    x.courtier(0, 0, 0);
    x.courtier(9, 50, 0);
    for (int moon = 1; moon <= 37; moon++) {
      x.moons(1);
      e.due("age of 0 in moon " + moon, x.courtierIs(0, 0), moon / 12);
      e.due("age of 9 in moon " + moon, x.courtierIs(9, 0), 50 + moon / 12);
    }
    x.courtier(5, 7, 0);
    e.due("told in moon 37", x.courtierIs(5, 0), 7);
    x.moons(10);
    e.due("in moon 47", x.courtierIs(5, 0), 7);
    x.moons(1);
    e.due("in moon 48", x.courtierIs(5, 0), 8);
  }

  private static void oldest(Edges e) {
    e.says(TERMS, "all AGES are one more (99 at most)");
    CourtHand x = new CourtHand();
    x.courtier(0, 98, 0);
    x.courtier(1, 99, 0);
    x.courtier(2, 97, 0);
    int[][] due = {{99, 99, 98}, {99, 99, 99}, {99, 99, 99}};
    for (int year = 0; year < due.length; year++) {
      x.moons(12);
      for (int c = 0; c < 3; c++) {
        e.due("year " + year + ", courtier " + c, x.courtierIs(c, 0), due[year][c]);
      }
    }
  }

  private static void lastMoon(Edges e) {
    e.says(TERMS, "(9999 at most: then none goes by.)");
    CourtHand x = Scene.scribe(0);
    for (int i = 0; i < 166; i++) {
      x.moons(60);
    }
    x.moons(29);
    e.due("moon 9989", x.count(0), 9989);
    x.courtier(0, 30, 100);
    x.form(0, 0, 0);
    Scene.law(x, "p10(1=1);i1(1=1)");
    x.keep();
    e.due("as many as can: 10, five of which mend", x.tried(60, 0), 5);
    e.due("ink of ten moons", x.tried(60, 30), 100 + 10 - 35);
    e.due("ten moons are the same", x.tried(10, 30), 100 + 10 - 35);
    e.due("nine are not", x.tried(9, 30), 100 + 9 - 30);
    x.moons(9);
    e.due("9998", x.count(0), 9998);
    x.moons(2);
    e.due("9999", x.count(0), 9999);
    e.due("ink", x.courtierIs(0, 1), 75);
    x.form(0, 0, 0);
    int seed = x.count(6);
    e.due("none goes by", x.moons(1), 0);
    e.due("none of sixty", x.moons(60), 0);
    e.due("still 9999", x.count(0), 9999);
    e.due("no draw", x.count(6), seed);
    e.due("no ink", x.courtierIs(0, 1), 75);
    e.due("no dot", x.formOf(0, 0), 0);
    e.due("none is tried", x.tried(60, 2), 0);
    x.undo();
    e.due("undone", x.count(0), 9989);
    e.due("then one goes by", x.moons(1), 1);
  }

  private static void draws(Edges e) {
    e.says(TERMS, "DRAWS: X = (25173 X + 13849) modulo 65536 (X is THE SEED at first, 1): X modulo 10");
    CourtHand x = Scene.scribe(0);
    e.due("at first", x.count(6), 1);
    x.moons(1);
    e.due("39022, then 61087", x.count(6), 61087);
    x.seed(0);
    x.moons(1);
    e.due("13849, then 49646", x.count(6), (int) ((25173L * 13849 + 13849) % 65536));
    x.seed(65535);
    x.moons(1);
    e.due("54212, then another", x.count(6), (int) ((25173L * 54212 + 13849) % 65536));
    int due = x.count(6);
    for (int i = 0; i < 200; i++) {
      x.moons(1);
      due = behind(due, 2);
      e.due("moon " + i, x.count(6), due);
      e.due("0 to 65535", x.count(6) >= 0 && x.count(6) <= 65535, true);
    }
  }
}
