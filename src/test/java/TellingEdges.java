/** The edges of promises 1 to 4 and 28 to 30: what is told, kept and undone. */
final class TellingEdges {
  private TellingEdges() {
  }

  static void all(Edges e) {
    none(e);
    newObject(e);
    model(e);
    courtier(e);
    form(e);
    seed(e);
    keep(e);
    undo(e);
  }

  private static void none(Edges e) {
    e.says("Terms", "NONE = -1`: There is none.");
    e.due("NONE", CourtHand.NONE, -1);
  }

  private static void newObject(Edges e) {
    e.says("Promise 1:", "No MODELS, COURTIERS, LAW, ORDER; THE SEED 1.");
    CourtHand x = new CourtHand();
    int[] counts = {0, 0, 0, 0, 0, 0, 1};
    for (int what = 0; what < counts.length; what++) {
      e.due("count " + what, x.count(what), counts[what]);
    }
    for (int k = 0; k < 8; k++) {
      e.due("no model " + k, x.modelOf(k), -1);
      e.due("no letter " + k, x.another(0, k, 0), -1);
    }
    for (int c = 0; c < 10; c++) {
      e.due("no courtier " + c, x.courtierIs(c, 0), -1);
      e.due("no hand " + c, x.written(c, 0), -1);
    }
    e.due("no letter of an order", x.count(100), -1);
    e.due("nothing is read", x.read(0), -2);
    e.due("nobody commands", x.commands(), -2);
    e.due("nothing is kept", x.undo(), false);
  }

  private static void model(Edges e) {
    e.says("Promise 2:", "The MODEL of a LETTER (FORMS of one's own stay): true; false: no such ones.");
    CourtHand x = Scene.court();
    int own = x.formOf(9, 0);
    e.due("another model", x.model(0, 0), true);
    e.due("is told", x.modelOf(0), 0);
    e.due("an own form stays", x.formOf(9, 0), own);
    e.due("its faults are others", x.courtierIs(9, 2) >= Integer.bitCount(own), true);
    e.due("the same model again", x.model(0, 0), true);
    e.due("letter 7", x.model(7, Scene.ALL), true);
    for (int k : new int[] {-1, 8, Integer.MIN_VALUE, Integer.MAX_VALUE}) {
      e.denied("letter " + k, y -> y.model(k, 0));
    }
    for (int grid : new int[] {-1, Scene.ALL + 1, Integer.MIN_VALUE, Integer.MAX_VALUE}) {
      e.denied("grid " + grid, y -> y.model(7, grid));
      e.denied("grid in place of another " + grid, y -> y.model(0, grid));
    }
    e.denied("neither", y -> y.model(8, -1));
  }

  private static void courtier(Edges e) {
    e.says("Promise 3:", "A COURTIER (in place of the one before: FORMS as MODELS are): true; false: no such ones.");
    CourtHand x = Scene.court();
    e.due("another in his place", x.courtier(9, 0, 9999), true);
    e.due("his age", x.courtierIs(9, 0), 0);
    e.due("his ink", x.courtierIs(9, 1), 9999);
    e.due("his faults", x.courtierIs(9, 2), 0);
    for (int k = 0; k < 3; k++) {
      e.due("his form " + k, x.formOf(9, k), x.modelOf(k));
    }
    x.model(2, 5);
    e.due("not his own", x.formOf(9, 2), 5);
    e.due("the others stay", x.count(1), 1 | 16 | 512);
    int[][] wrong = {{-1, 0, 0}, {10, 0, 0}, {0, -1, 0}, {0, 100, 0}, {0, 0, -1}, {0, 0, 10000}, {10, 100, 10000}};
    for (int[] row : wrong) {
      e.denied("courtier " + row[0] + " " + row[1] + " " + row[2], y -> y.courtier(row[0], row[1], row[2]));
    }
  }

  private static void form(Edges e) {
    e.says("Promise 4:", "A FORM of a told COURTIER for a LETTER with a MODEL: true; false: no such ones.");
    CourtHand x = Scene.court();
    e.due("the least grid", x.form(9, 2, 0), true);
    e.due("is it", x.formOf(9, 2), 0);
    e.due("the largest grid", x.form(0, 0, Scene.ALL), true);
    e.due("is it", x.formOf(0, 0), Scene.ALL);
    int[][] wrong = {{-1, 0, 0}, {1, 0, 0}, {8, 0, 0}, {10, 0, 0}, {0, -1, 0}, {0, 3, 0}, {0, 7, 0}, {0, 8, 0}, {0, 0, -1},
      {0, 0, Scene.ALL + 1}, {1, 3, -1}};
    for (int[] row : wrong) {
      e.denied("form " + row[0] + " " + row[1] + " " + row[2], y -> y.form(row[0], row[1], row[2]));
    }
  }

  private static void seed(Edges e) {
    e.says("Promise 28:", "THE SEED (0 to 65535; X, too): true; false: no such number.");
    CourtHand x = new CourtHand();
    for (int seed : new int[] {0, 1, 65534, 65535}) {
      e.due("seed " + seed, x.seed(seed), true);
      e.due("X " + seed, x.count(6), seed);
    }
    for (int seed : new int[] {-1, 65536, 131071, Integer.MIN_VALUE, Integer.MAX_VALUE}) {
      e.denied("seed " + seed, y -> y.seed(seed));
    }
  }

  private static void keep(Edges e) {
    e.says("Promise 29:", "KEPT: THE MOON.");
    CourtHand x = new CourtHand();
    e.due("at first", x.keep(), 0);
    x.moons(60);
    e.due("moon 60", x.keep(), 60);
    e.due("again", x.keep(), 60);
    x.moons(1);
    x.undo();
    e.due("undone", x.keep(), 60);
    CourtHand y = Scene.court();
    y.undo();
    y.keep();
    CourtHand z = Scene.court();
    z.undo();
    e.same("keeping", y, z);
  }

  private static void undo(Edges e) {
    e.says("Promise 30:", "UNDONE: true; false: none was KEPT.");
    CourtHand x = new CourtHand();
    x.courtier(0, 5, 5);
    x.moons(3);
    x.seed(9);
    e.due("none was kept", x.undo(), false);
    e.due("the courtier stays", x.courtierIs(0, 0), 5);
    e.due("the moon stays", x.count(0), 3);
    e.due("X stays", x.count(6), 9);
    x.keep();
    x.courtier(1, 5, 5);
    e.due("one was", x.undo(), true);
    e.due("undone", x.count(1), 1);
    e.due("as often as one likes", x.undo(), true);
    e.due("a second time nothing is another", x.count(1), 1);
  }
}
