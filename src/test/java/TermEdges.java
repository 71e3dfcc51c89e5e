/** The edges of grids, letters, courtiers, reading and rank. */
final class TermEdges {
  private static final String TERMS = "Terms";

  private TermEdges() {
  }

  static void all(Edges e) {
    dots(e);
    gridsInside(e);
    gridsOutside(e);
    apart(e);
    letters(e);
    courtiers(e);
    ages(e);
    inks(e);
    ownForms(e);
    formsByModels(e);
    formsWithoutModels(e);
    firstMoon(e);
    reading(e);
    likeNear(e);
    noModel(e);
    faults(e);
    rank(e);
    rankOfLikeOnes(e);
  }

  private static void dots(Edges e) {
    e.says(TERMS, "dot (x, y) at 5 times y and x (0 to 24)");
    CourtHand x = new CourtHand();
    int[][] mirrored = {{0, 4}, {4, 0}, {20, 24}, {24, 20}, {12, 12}, {5, 9}, {1, 3}};
    for (int[] row : mirrored) {
      e.due("mirrored dot " + row[0], x.shape(1 << row[0], 4), 1 << row[1]);
    }
    e.due("4 and 5 are no neighbours", x.shape(1 << 4 | 1 << 5, 1), 2);
    e.due("0 and 5 are", x.shape(1 | 1 << 5, 1), 1);
    e.due("19 and 20 are none", x.shape(1 << 19 | 1 << 20, 1), 2);
    e.due("19 and 24 are", x.shape(1 << 19 | 1 << 24, 1), 1);
  }

  private static void gridsInside(Edges e) {
    e.says(TERMS, "as a number (0 to 33554431) by bits");
    for (int grid : new int[] {0, 1, 1 << 24, Scene.ALL - 1, Scene.ALL}) {
      CourtHand x = Scene.letters();
      x.courtier(0, 0, 0);
      e.due("model " + grid, x.model(3, grid), true);
      e.due("modelOf " + grid, x.modelOf(3), grid);
      e.due("form " + grid, x.form(0, 3, Scene.ALL ^ grid), true);
      e.due("formOf " + grid, x.formOf(0, 3), Scene.ALL ^ grid);
      e.due("read " + grid, x.read(grid), 3);
      e.due("apart " + grid, x.apart(grid, grid), 0);
      e.due("another " + grid, x.another(grid, 3, 0), 0);
      e.due("shape " + grid, x.shape(grid, 3), Integer.bitCount(grid));
      e.due("like " + grid, x.like(grid, grid), 0);
    }
  }

  private static void gridsOutside(Edges e) {
    e.says(TERMS, "as a number (0 to 33554431) by bits");
    for (int grid : new int[] {-1, Scene.ALL + 1, -Scene.ALL, Integer.MIN_VALUE, Integer.MAX_VALUE}) {
      e.denied("model " + grid, x -> x.model(0, grid));
      e.denied("form " + grid, x -> x.form(0, 0, grid));
      e.none("read " + grid, x -> x.read(grid));
      e.none("apart " + grid, x -> x.apart(grid, 0));
      e.none("apart other " + grid, x -> x.apart(0, grid));
      e.none("apart both " + grid, x -> x.apart(grid, grid));
      e.none("another " + grid, x -> x.another(grid, 0, 0));
      e.none("shape " + grid, x -> x.shape(grid, 3));
      e.none("like " + grid, x -> x.like(grid, 0));
      e.none("like other " + grid, x -> x.like(0, grid));
      e.none("like both " + grid, x -> x.like(grid, grid));
    }
  }

  private static void apart(Edges e) {
    e.says(TERMS, "APART are two GRIDS by how many dots");
    CourtHand x = new CourtHand();
    e.due("the same", x.apart(Scene.RING, Scene.RING), 0);
    e.due("the lowest dot", x.apart(0, 1), 1);
    e.due("the highest dot", x.apart(1 << 24, 0), 1);
    e.due("all but one", x.apart(Scene.ALL, 1 << 12), 24);
    e.due("all", x.apart(Scene.ALL, 0), 25);
    e.due("all by halves", x.apart(Scene.BAR, Scene.ALL ^ Scene.BAR), 25);
  }

  private static void letters(Edges e) {
    e.says(TERMS, "LETTERS A to H (0 to 7): each with a MODEL, told or not");
    CourtHand x = new CourtHand();
    x.courtier(0, 0, 0);
    for (int k = 0; k < 8; k++) {
      e.due("not told " + k, x.modelOf(k), -1);
      e.due("model " + k, x.model(k, 1 << k), true);
      e.due("told up to " + k, x.count(2), (2 << k) - 1);
      e.due("modelOf " + k, x.modelOf(k), 1 << k);
      e.due("form " + k, x.form(0, k, 3 << k), true);
      e.due("formOf " + k, x.formOf(0, k), 3 << k);
      e.due("another " + k, x.another(1 << k, k, 0), 0);
    }
    for (int k : new int[] {-1, 8, 9, 32, Integer.MIN_VALUE, Integer.MAX_VALUE}) {
      e.denied("model " + k, y -> y.model(k, 0));
      e.denied("form " + k, y -> y.form(0, k, 0));
      e.none("formOf " + k, y -> y.formOf(0, k));
      e.none("modelOf " + k, y -> y.modelOf(k));
      e.none("another " + k, y -> y.another(0, k, 0));
    }
  }

  private static void courtiers(Edges e) {
    e.says(TERMS, "COURTIERS 0 to 9: told or not");
    CourtHand x = Scene.letters();
    for (int c = 0; c < 10; c++) {
      e.due("not told " + c, x.courtierIs(c, 0), -1);
      e.due("courtier " + c, x.courtier(c, 20 + c, 7), true);
      e.due("told up to " + c, x.count(1), (2 << c) - 1);
      e.due("courtierIs " + c, x.courtierIs(c, 0), 20 + c);
      e.due("form " + c, x.form(c, 0, c), true);
      e.due("formOf " + c, x.formOf(c, 0), c);
      e.due("written " + c, x.written(c, 0), 0);
      e.due("clear " + c, x.clear(c, 0) >= 0, true);
      e.due("tried " + c, x.tried(1, 10 + c) >= 0, true);
      e.due("alike " + c, x.alike(0, c), 1 << c);
      e.due("forge " + c, x.forge(c, 0) >= 0, c > 0);
    }
    for (int c : new int[] {-1, 10, 32, 41, Integer.MIN_VALUE, Integer.MAX_VALUE}) {
      e.denied("courtier " + c, y -> y.courtier(c, 0, 0));
      nobody(e, c);
    }
    nobody(e, 1);
    nobody(e, 8);
  }

  private static void nobody(Edges e, int c) {
    e.denied("form " + c, x -> x.form(c, 0, 0));
    e.none("courtierIs " + c, x -> x.courtierIs(c, 0));
    e.none("formOf " + c, x -> x.formOf(c, 0));
    e.none("written " + c, x -> x.written(c, 0));
    e.none("clear " + c, x -> x.clear(c, 0));
    e.none("forge " + c, x -> x.forge(c, 0));
    e.none("forge of " + c, x -> x.forge(0, c));
    e.none("alike " + c, x -> x.alike(5, c));
  }

  private static void ages(Edges e) {
    e.says(TERMS, "an AGE (0 to 99)");
    CourtHand x = new CourtHand();
    for (int age : new int[] {0, 1, 98, 99}) {
      e.due("age " + age, x.courtier(0, age, 5), true);
      e.due("is " + age, x.courtierIs(0, 0), age);
    }
    for (int age : new int[] {-1, 100, Integer.MIN_VALUE, Integer.MAX_VALUE}) {
      e.denied("age " + age, y -> y.courtier(0, age, 5));
      e.denied("age of one not told " + age, y -> y.courtier(1, age, 5));
    }
  }

  private static void inks(Edges e) {
    e.says(TERMS, "INK (0 to 9999)");
    CourtHand x = new CourtHand();
    for (int ink : new int[] {0, 1, 9998, 9999}) {
      e.due("ink " + ink, x.courtier(0, 5, ink), true);
      e.due("is " + ink, x.courtierIs(0, 1), ink);
    }
    for (int ink : new int[] {-1, 10000, Integer.MIN_VALUE, Integer.MAX_VALUE}) {
      e.denied("ink " + ink, y -> y.courtier(0, 5, ink));
      e.denied("ink of one not told " + ink, y -> y.courtier(1, 5, ink));
    }
  }

  private static void ownForms(Edges e) {
    e.says(TERMS, "his own, if it was told or changed");
    CourtHand told = Scene.scribe(Scene.BAR);
    told.model(0, 5);
    e.due("told as the model is", told.formOf(0, 0), Scene.BAR);
    CourtHand blotted = Scene.scribe(0);
    blotted.courtier(0, 30, 5000);
    Scene.blots(blotted, "0Aa");
    blotted.model(0, 5);
    e.due("changed by a blot", blotted.formOf(0, 0), Scene.BAR ^ 1);
    CourtHand spoiled = Scene.scribe(0);
    spoiled.courtier(0, 30, 5000);
    Scene.law(spoiled, "w10(1=1)");
    spoiled.seed(Scene.seedFor(-1, -1, 7, 4));
    spoiled.moons(1);
    spoiled.model(0, 5);
    e.due("changed in a moon", spoiled.formOf(0, 0), Scene.BAR ^ 1 << 24);
    CourtHand mended = Scene.scribe(Scene.BAR ^ 1);
    Scene.law(mended, "p10(1=1)");
    e.due("mended", mended.moons(1), 1);
    mended.model(0, 5);
    e.due("mended till it is as the model", mended.formOf(0, 0), Scene.BAR);
  }

  private static void formsByModels(Edges e) {
    e.says(TERMS, "else as the MODEL is");
    CourtHand x = Scene.letters();
    x.courtier(0, 30, 5000);
    Scene.law(x, "p10(1=1)");
    x.moons(2);
    e.due("as told first", x.formOf(0, 0), Scene.BAR);
    x.model(0, 5);
    e.due("practised, but not changed", x.formOf(0, 0), 5);
    x.form(0, 0, 6);
    x.model(1, 9);
    e.due("another letter's form is own", x.formOf(0, 1), 9);
    x.courtier(0, 30, 5000);
    e.due("told anew", x.formOf(0, 0), 5);
  }

  private static void formsWithoutModels(Edges e) {
    e.says(TERMS, "(of a LETTER without a MODEL: none)");
    for (int k = 3; k < 8; k++) {
      int letter = k;
      e.none("formOf " + k, x -> x.formOf(0, letter));
      e.denied("form " + k, x -> x.form(0, letter, 5));
    }
    CourtHand x = Scene.court();
    x.form(0, 3, 5);
    x.model(3, 77);
    e.due("a refused form is not kept for later", x.formOf(0, 3), 77);
  }

  private static void firstMoon(Edges e) {
    e.says(TERMS, "THE MOON (0 at first)");
    CourtHand x = new CourtHand();
    e.due("at first", x.count(0), 0);
    e.due("kept at first", x.keep(), 0);
    x.moons(1);
    e.due("then", x.count(0), 1);
  }

  private static void reading(Edges e) {
    e.says(TERMS, "a GRID is READ as the LETTER to whose MODEL it is least APART");
    CourtHand x = new CourtHand();
    x.model(0, 0);
    x.model(7, 7);
    e.due("1 from A, 2 from H", x.read(1), 0);
    e.due("2 from A, 1 from H", x.read(3), 7);
    e.due("0 from A", x.read(0), 0);
    e.due("25 from A, 22 from H", x.read(Scene.ALL), 7);
    CourtHand one = new CourtHand();
    one.model(4, 0);
    e.due("25 from the only one", one.read(Scene.ALL), 4);
  }

  private static void likeNear(Edges e) {
    e.says(TERMS, "is it as near to another one's");
    CourtHand x = new CourtHand();
    x.model(0, 0);
    x.model(7, 3);
    e.due("1 from both", x.read(1), -2);
    e.due("0 from A, 2 from H", x.read(0), 0);
    x.model(3, 1);
    e.due("two as near, a third nearer", x.read(1), 3);
    x.model(3, 12);
    e.due("two as near, a third farther", x.read(1), -2);
    x.model(7, 0);
    e.due("like models", x.read(0), -2);
    e.due("like models, another is nearer", x.read(12), 3);
  }

  private static void noModel(Edges e) {
    e.says(TERMS, "or is no MODEL told, it can't be READ");
    CourtHand x = new CourtHand();
    e.due("white", x.read(0), -2);
    e.due("black", x.read(Scene.ALL), -2);
    x.model(0, Scene.ALL + 1);
    e.due("behind a refused model", x.read(0), -2);
    x.model(0, 0);
    e.due("one is told", x.read(Scene.ALL), 0);
  }

  private static void faults(Edges e) {
    e.says(TERMS, "FAULTS of a FORM: how far APART it is from its MODEL; of a COURTIER: of all LETTERS with a MODEL");
    CourtHand x = new CourtHand();
    x.courtier(0, 0, 0);
    e.due("no letters", x.courtierIs(0, 2), 0);
    for (int k = 0; k < 8; k++) {
      x.model(k, 0);
      e.due("as the model is", x.courtierIs(0, 2), 25 * k);
      x.form(0, k, Scene.ALL);
      e.due("with letter " + k, x.courtierIs(0, 2), 25 * (k + 1));
    }
    x.form(0, 7, 1);
    e.due("one in the last", x.courtierIs(0, 2), 176);
  }

  private static void rank(Edges e) {
    e.says(TERMS, "RANK: COURTIERS by FAULTS, the fewest first");
    CourtHand x = new CourtHand();
    x.model(0, 0);
    for (int c = 0; c < 10; c++) {
      x.courtier(c, c, 0);
      x.form(c, 0, (1 << 9 - c) - 1);
    }
    for (int c = 0; c < 10; c++) {
      e.due("rank of " + c, x.courtierIs(c, 3), 9 - c);
    }
    e.due("9 is the first", x.commands(), 9);
    x.form(9, 0, Scene.ALL);
    e.due("9 is the last", x.courtierIs(9, 3), 9);
    e.due("8 is the first", x.commands(), 8);
  }

  private static void rankOfLikeOnes(Edges e) {
    e.says(TERMS, "(of like ones the older first, then the lowest): 0 is the first");
    CourtHand x = new CourtHand();
    x.courtier(5, 50, 0);
    e.due("alone", x.courtierIs(5, 3), 0);
    x.courtier(2, 49, 0);
    x.courtier(7, 51, 0);
    e.due("a year older", x.courtierIs(7, 3), 0);
    e.due("between", x.courtierIs(5, 3), 1);
    e.due("a year younger", x.courtierIs(2, 3), 2);
    x.courtier(2, 51, 0);
    e.due("as old, lower", x.courtierIs(2, 3), 0);
    e.due("as old, higher", x.courtierIs(7, 3), 1);
    x.model(0, 0);
    x.form(2, 0, 1);
    e.due("one fault is more than all years", x.courtierIs(2, 3), 2);
  }
}
