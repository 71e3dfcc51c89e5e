/** The edges of the promises that ask, and of moons: 9 to 16, 18, 20 to 27, 32. */
final class AskingEdges {
  private AskingEdges() {
  }

  static void all(Edges e) {
    moons(e);
    tried(e);
    triedNobody(e);
    courtierIs(e);
    formOf(e);
    modelOf(e);
    read(e);
    apart(e);
    written(e);
    writtenAside(e);
    another(e);
    forge(e);
    alike(e);
    rises(e);
    commands(e);
    clear(e);
    clearLikeTwos(e);
    shape(e);
    like(e);
    toldApart(e);
    count(e);
    countLetters(e);
    nothingIsChanged(e);
  }

  private static void moons(Edges e) {
    e.says("Promise 9:", "MOONS (1 to 60; as many as can) go by: how many dots were mended; NONE: no such n.");
    for (int n : new int[] {1, 2, 59, 60}) {
      CourtHand x = new CourtHand();
      x.moons(n);
      e.due(n + " go by", x.count(0), n);
    }
    for (int n : new int[] {0, -1, 61, Integer.MIN_VALUE, Integer.MAX_VALUE}) {
      e.none("moons " + n, x -> x.moons(n));
    }
    CourtHand x = Scene.scribe(Scene.BAR ^ 7);
    Scene.law(x, "p10(1=1)");
    e.due("two are mended", x.moons(2), 2);
    e.due("one is left", x.moons(60), 1);
    e.due("none is", x.moons(60), 0);
  }

  private static void tried(Edges e) {
    e.says("Promise 10:", "10 + c FAULTS, 20 + c RANK, 30 + c INK of told COURTIER c then");
    CourtHand x = Scene.court();
    for (int c : new int[] {0, 4, 9}) {
      e.due("faults of " + c, x.tried(1, 10 + c) >= 0, true);
      e.due("rank of " + c, x.tried(1, 20 + c) >= 0 && x.tried(1, 20 + c) < 3, true);
      e.due("ink of " + c, x.tried(1, 30 + c) >= 0, true);
    }
    for (int n : new int[] {1, 60}) {
      e.due(n + " moons", x.tried(n, 2) > 0, true);
    }
    triedRank(e);
    for (int n : new int[] {0, -1, 61, Integer.MIN_VALUE, Integer.MAX_VALUE}) {
      e.none("tried " + n, y -> y.tried(n, 0));
      e.none("tried " + n + " of one", y -> y.tried(n, 10));
    }
    for (int what : new int[] {-1, 4, 5, 9, 11, 18, 21, 28, 31, 38, 40, 44, 49, 100, -10, -20, Integer.MIN_VALUE, Integer.MAX_VALUE}) {
      e.none("tried what " + what, y -> y.tried(1, what));
    }
  }

  private static void triedRank(Edges e) {
    CourtHand x = Scene.scribe(Scene.BAR ^ 1);
    x.courtier(9, 20, 5000);
    Scene.law(x, "p10(1=1)");
    e.due("rank now", x.courtierIs(0, 3), 1);
    e.due("rank behind the last moon, not ahead of it", x.tried(1, 20), 0);
    e.due("rank of the other", x.tried(1, 29), 1);
    e.due("first behind the last moon", x.tried(1, 3), 0);
  }

  private static void triedNobody(Edges e) {
    e.says("Promise 10:", "-2 (of 3): nobody is told; NONE: no such ones.");
    CourtHand x = Scene.letters();
    int[] due = {0, 0, 0, -2, -1};
    for (int what = 0; what < due.length; what++) {
      e.due("what " + what, x.tried(5, what), due[what]);
    }
    for (int what = 10; what < 40; what++) {
      e.due("what " + what, x.tried(5, what), -1);
    }
    e.due("nobody, 0 moons", x.tried(0, 3), -1);
    x.courtier(9, 0, 0);
    e.due("one is told", x.tried(5, 3), 9);
  }

  private static void courtierIs(Edges e) {
    e.says("Promise 11:", "4 how many of his FORMS are READ as they are meant, 5 how many can't be READ; NONE for others.");
    CourtHand x = new CourtHand();
    x.courtier(9, 99, 9999);
    int[] due = {99, 9999, 0, 0, 0, 0, -1};
    for (int what = 0; what < due.length; what++) {
      e.due("without letters, what " + what, x.courtierIs(9, what), due[what]);
    }
    for (int k = 0; k < 8; k++) {
      x.model(k, 7 << 3 * k);
    }
    e.due("all eight", x.courtierIs(9, 4), 8);
    x.form(9, 7, 7);
    e.due("H as A", x.courtierIs(9, 4), 7);
    e.due("H is read", x.courtierIs(9, 5), 0);
    x.form(9, 7, 0);
    e.due("H can't be", x.courtierIs(9, 5), 1);
    for (int k = 0; k < 8; k++) {
      x.form(9, k, 0);
    }
    e.due("none can be", x.courtierIs(9, 5), 8);
    e.due("none as meant", x.courtierIs(9, 4), 0);
    for (int what : new int[] {-1, 6, Integer.MIN_VALUE, Integer.MAX_VALUE}) {
      e.none("what " + what, y -> y.courtierIs(0, what));
    }
    for (int c : new int[] {-1, 1, 10}) {
      for (int what = 0; what < 6; what++) {
        int asked = what;
        e.none("courtier " + c + " what " + what, y -> y.courtierIs(c, asked));
      }
    }
  }

  private static void formOf(Edges e) {
    e.says("Promise 12:", "The FORM of a told COURTIER for a LETTER with a MODEL; NONE: no such ones.");
    CourtHand x = new CourtHand();
    x.courtier(0, 0, 0);
    x.courtier(9, 0, 0);
    x.model(0, 0);
    x.model(7, Scene.ALL);
    e.due("0 and A", x.formOf(0, 0), 0);
    e.due("9 and H", x.formOf(9, 7), Scene.ALL);
    int[][] wrong = {{1, 0}, {8, 0}, {-1, 0}, {10, 0}, {0, -1}, {0, 3}, {0, 8}, {9, 7}, {-1, -1}};
    for (int[] row : wrong) {
      e.none("formOf " + row[0] + " " + row[1], y -> y.formOf(row[0], row[1]));
    }
  }

  private static void modelOf(Edges e) {
    e.says("Promise 13:", "The MODEL of a LETTER; NONE: none, no such one.");
    CourtHand x = new CourtHand();
    x.model(0, 0);
    x.model(7, Scene.ALL);
    e.due("A", x.modelOf(0), 0);
    e.due("H", x.modelOf(7), Scene.ALL);
    for (int k = 1; k < 7; k++) {
      e.due("none for " + k, x.modelOf(k), -1);
    }
    for (int k : new int[] {-1, 3, 7, 8, 32, Integer.MIN_VALUE, Integer.MAX_VALUE}) {
      e.none("modelOf " + k, y -> y.modelOf(k));
    }
  }

  private static void read(Edges e) {
    e.says("Promise 14:", "READ: the LETTER; -2: it can't be; NONE: no such GRID.");
    CourtHand x = new CourtHand();
    e.due("no model", x.read(0), -2);
    e.due("no model, no such grid", x.read(-1), -1);
    e.due("no model, too large", x.read(Scene.ALL + 1), -1);
    x.model(0, 0);
    x.model(7, Scene.ALL);
    e.due("12 dots", x.read((1 << 12) - 1), 0);
    e.due("13 dots", x.read((1 << 13) - 1), 7);
    x.model(7, Scene.ALL ^ 1);
    e.due("12 of 24", x.read((1 << 13) - 2), -2);
    e.due("0", x.read(0), 0);
    e.due("the largest", x.read(Scene.ALL), 7);
    e.none("read -1", y -> y.read(-1));
    e.none("read too large", y -> y.read(Scene.ALL + 1));
  }

  private static void apart(Edges e) {
    e.says("Promise 15:", "APART: dots; NONE: no such GRIDS.");
    CourtHand x = new CourtHand();
    e.due("0", x.apart(0, 0), 0);
    e.due("25", x.apart(0, Scene.ALL), 25);
    e.due("25 back", x.apart(Scene.ALL, 0), 25);
    for (int grid : new int[] {-1, Scene.ALL + 1, Integer.MIN_VALUE, Integer.MAX_VALUE}) {
      e.none("apart " + grid, y -> y.apart(grid, Scene.ALL));
      e.none("apart other " + grid, y -> y.apart(Scene.ALL, grid));
    }
  }

  private static void written(Edges e) {
    e.says("Promise 16:", "4 how many his INK is enough for; NONE: no such ones.");
    CourtHand x = Scene.letters();
    x.courtier(9, 0, 5);
    Scene.order(x, "A2");
    int[] due = {2, 0, 0, 10, 1, -1};
    for (int what = 0; what < due.length; what++) {
      e.due("what " + what, x.written(9, what), due[what]);
    }
    for (int what : new int[] {-1, 5, Integer.MIN_VALUE, Integer.MAX_VALUE}) {
      e.none("what " + what, y -> y.written(0, what));
    }
    for (int c : new int[] {-1, 1, 8, 10, Integer.MIN_VALUE, Integer.MAX_VALUE}) {
      for (int what = 0; what < 5; what++) {
        int asked = what;
        e.none("courtier " + c + " what " + what, y -> y.written(c, asked));
      }
    }
  }

  private static void writtenAside(Edges e) {
    e.says("Promise 16:", "(Of 0 to 3: LETTERS of THE ORDER without a MODEL aside.)");
    CourtHand x = Scene.letters();
    x.courtier(0, 0, 9999);
    Scene.order(x, "HADBGC");
    int[] due = {3, 0, 0, 18, 0};
    for (int what = 0; what < due.length; what++) {
      e.due("what " + what, x.written(0, what), due[what]);
    }
    Scene.order(x, "D9H9");
    for (int what = 0; what < 5; what++) {
      e.due("all without, what " + what, x.written(0, what), 0);
    }
    x.model(3, Scene.ALL);
    e.due("D by now", x.written(0, 0), 9);
    e.due("ink of D", x.written(0, 3), 225);
  }

  private static void another(Edges e) {
    e.says("Promise 18:", "what 0 how many dots, 1 which (bits); -2: not by 3; NONE: no such ones.");
    CourtHand x = new CourtHand();
    x.model(0, 0);
    x.model(7, 63);
    int[][] rows = {{63, 0, 0}, {15, 0, 0}, {7, 1, 8}, {3, 2, 12}, {1, 3, 14}, {0, -2, -2}, {1 << 24, -2, -2}};
    for (int[] row : rows) {
      e.due(row[0] + ": how many", x.another(row[0], 7, 0), row[1]);
      e.due(row[0] + ": which", x.another(row[0], 7, 1), row[2]);
    }
    x.model(7, 127);
    int[][] least = {{112, 1, 1}, {96, 2, 3}, {64, 3, 7}, {81, 1, 2}, {80, 2, 3}, {65, 2, 6}, {97, 1, 2}};
    for (int[] row : least) {
      e.due(row[0] + " to seven dots: how many", x.another(row[0], 7, 0), row[1]);
      e.due(row[0] + " to seven dots: which", x.another(row[0], 7, 1), row[2]);
    }
    int[][] wrong = {{-1, 0, 0}, {Scene.ALL + 1, 0, 0}, {0, -1, 0}, {0, 3, 0}, {0, 7, 0}, {0, 8, 0}, {0, 0, -1}, {0, 0, 2},
      {0, 0, Integer.MIN_VALUE}, {0, 0, Integer.MAX_VALUE}};
    for (int[] row : wrong) {
      e.none("another " + row[0] + " " + row[1] + " " + row[2], y -> y.another(row[0], row[1], row[2]));
    }
  }

  private static void forge(Edges e) {
    e.says("Promise 20:", "dots from a told COURTIER's hand to another told one's; NONE: no such ones, the same.");
    CourtHand x = Scene.letters();
    x.courtier(0, 0, 0);
    x.courtier(9, 0, 0);
    e.due("like hands", x.forge(0, 9), 0);
    x.form(9, 2, Scene.RING ^ 1 << 24);
    e.due("one dot", x.forge(9, 0), 1);
    e.due("the same", x.forge(9, 9), -1);
    int[][] wrong = {{0, 0}, {9, 9}, {0, 1}, {1, 0}, {1, 1}, {-1, 0}, {0, -1}, {10, 0}, {0, 10}, {10, 10}};
    for (int[] row : wrong) {
      e.none("forge " + row[0] + " " + row[1], y -> y.forge(row[0], row[1]));
    }
  }

  private static void alike(Edges e) {
    e.says("Promise 21:", "HANDS ALIKE by so many dots (0 to 200), what 100 how many groups");
    CourtHand x = Scene.letters();
    x.courtier(0, 0, 0);
    x.courtier(9, 0, 0);
    x.form(9, 0, Scene.BAR ^ 1);
    e.due("by 0", x.alike(0, 100), 2);
    e.due("by 1", x.alike(1, 100), 1);
    e.due("by 200", x.alike(200, 100), 1);
    e.due("9 by 0", x.alike(0, 9), 512);
    e.due("9 by 200", x.alike(200, 9), 513);
    for (int dots : new int[] {-1, 201, Integer.MIN_VALUE, Integer.MAX_VALUE}) {
      e.none("dots " + dots, y -> y.alike(dots, 100));
      e.none("dots " + dots + " of one", y -> y.alike(dots, 0));
    }
    for (int what : new int[] {-1, 1, 8, 10, 99, 101, Integer.MIN_VALUE, Integer.MAX_VALUE}) {
      e.none("what " + what, y -> y.alike(5, what));
    }
  }

  private static void rises(Edges e) {
    e.says("Promise 22:", "RISES in n MOONS (1 to 60), what 0 who (-2: nobody gains a place), 1 how many places (0 then)");
    CourtHand x = new CourtHand();
    e.due("nobody is told: who", x.rises(1, 0), -2);
    e.due("nobody is told: places", x.rises(60, 1), 0);
    x.model(0, 0);
    x.courtier(0, 50, 9999);
    e.due("alone", x.rises(60, 0), -2);
    x.courtier(1, 51, 9999);
    x.form(1, 0, (1 << 25) - 1);
    x.form(0, 0, 1);
    e.due("none mends", x.rises(60, 0), -2);
    Scene.law(x, "p10(c=1)");
    e.due("23 moons: 2 faults", x.rises(23, 1), 0);
    e.due("24 moons: as many, but older", x.rises(24, 1), 1);
    e.due("24 moons: who", x.rises(24, 0), 1);
    e.due("60 moons", x.rises(60, 1), 1);
    for (int n : new int[] {0, -1, 61, Integer.MIN_VALUE, Integer.MAX_VALUE}) {
      e.none("rises " + n, y -> y.rises(n, 0));
    }
    for (int what : new int[] {-1, 2, Integer.MIN_VALUE, Integer.MAX_VALUE}) {
      e.none("rises what " + what, y -> y.rises(1, what));
    }
  }

  private static void commands(Edges e) {
    e.says("Promise 23:", "COMMANDS: who; -2: nobody is told.");
    CourtHand x = Scene.letters();
    e.due("nobody", x.commands(), -2);
    x.courtier(10, 0, 0);
    e.due("behind a refused one", x.commands(), -2);
    x.courtier(0, 0, 0);
    e.due("0", x.commands(), 0);
    CourtHand y = new CourtHand();
    y.keep();
    y.courtier(9, 0, 0);
    e.due("9", y.commands(), 9);
    y.undo();
    e.due("undone", y.commands(), -2);
  }

  private static void clear(Edges e) {
    e.says("Promise 24:", "-2: fewer than two MODELS; NONE: no such ones.");
    CourtHand x = new CourtHand();
    x.courtier(0, 0, 0);
    for (int what = 0; what <= 2; what++) {
      e.due("no model, what " + what, x.clear(0, what), -2);
    }
    e.due("no model, what 3", x.clear(0, 3), -1);
    x.model(7, 0);
    for (int what = 0; what <= 2; what++) {
      e.due("one model, what " + what, x.clear(0, what), -2);
    }
    e.due("nobody", x.clear(1, 0), -1);
    x.model(6, 0);
    int[] due = {6, 7, 0};
    for (int what = 0; what <= 2; what++) {
      e.due("two models, what " + what, x.clear(0, what), due[what]);
    }
    for (int what : new int[] {-1, 3, Integer.MIN_VALUE, Integer.MAX_VALUE}) {
      e.none("what " + what, y -> y.clear(0, what));
    }
    for (int c : new int[] {-1, 1, 10, Integer.MIN_VALUE, Integer.MAX_VALUE}) {
      e.none("courtier " + c, y -> y.clear(c, 0));
    }
  }

  private static void clearLikeTwos(Edges e) {
    e.says("Promise 24:", "(of like twos the lowest first, then the lowest other)");
    CourtHand x = new CourtHand();
    x.courtier(0, 0, 0);
    for (int k = 0; k < 8; k++) {
      x.model(k, 7 << 3 * k);
    }
    e.due("all twos are like: first", x.clear(0, 0), 0);
    e.due("all twos are like: other", x.clear(0, 1), 1);
    e.due("all twos are like: how far", x.clear(0, 2), 6);
    x.form(0, 7, 7);
    e.due("A and H: other", x.clear(0, 1), 7);
    x.form(0, 2, 7 << 3);
    e.due("A and H ahead of B and C", x.clear(0, 0), 0);
    x.form(0, 5, 7);
    e.due("A and F ahead of A and H", x.clear(0, 1), 5);
    x.form(0, 0, 7 << 21);
    e.due("then B and C", x.clear(0, 0), 1);
    e.due("B and C: other", x.clear(0, 1), 2);
  }

  private static void shape(Edges e) {
    e.says("Promise 25:", "2 CROSS (-2: none is black), 3 black dots, 4 MIRRORED, 5 TURNED, 6 THE PEN; NONE: no such ones.");
    CourtHand x = new CourtHand();
    int[] white = {0, 0, -2, 0, 0, 0, 0, -1};
    int[] black = {0, 1, 2, 25, Scene.ALL, Scene.ALL, 5, -1};
    int[] corner = {0, 1, 0, 1, 16, 16, 0, -1};
    for (int what = 0; what < 8; what++) {
      e.due("white " + what, x.shape(0, what), white[what]);
      e.due("black " + what, x.shape(Scene.ALL, what), black[what]);
      e.due("corner " + what, x.shape(1, what), corner[what]);
    }
    for (int what : new int[] {-1, 7, Integer.MIN_VALUE, Integer.MAX_VALUE}) {
      e.none("what " + what, y -> y.shape(0, what));
    }
    for (int what = 0; what < 7; what++) {
      int asked = what;
      e.none("grid -1 what " + what, y -> y.shape(-1, asked));
      e.none("grid too large what " + what, y -> y.shape(Scene.ALL + 1, asked));
    }
  }

  private static void like(Edges e) {
    e.says("Promise 26:", "how one GRID is like another; -2: not; NONE: no such GRIDS.");
    CourtHand x = new CourtHand();
    e.due("0 and 0", x.like(0, 0), 0);
    e.due("the largest", x.like(Scene.ALL, Scene.ALL), 0);
    e.due("0 and the largest", x.like(0, Scene.ALL), -2);
    e.due("one dot more", x.like(Scene.RING, Scene.RING | 1), -2);
    for (int grid : new int[] {-1, Scene.ALL + 1, Integer.MIN_VALUE, Integer.MAX_VALUE}) {
      e.none("like " + grid, y -> y.like(grid, 0));
      e.none("like other " + grid, y -> y.like(0, grid));
    }
  }

  private static void toldApart(Edges e) {
    e.says("Promise 27:", "TOLD APART of k LETTERS (2 to 8), what 0 how far, 1 which (bits); -2: fewer have MODELS; NONE: no such ones.");
    for (int models = 0; models <= 8; models++) {
      CourtHand x = new CourtHand();
      for (int k = 0; k < models; k++) {
        x.model(7 - k, 7 << 3 * k);
      }
      for (int many = 2; many <= 8; many++) {
        e.due(many + " of " + models, x.toldApart(many, 0), many <= models ? 6 : -2);
        e.due(many + " of " + models + ": which", x.toldApart(many, 1), many <= models ? (1 << many) - 1 << 8 - models : -2);
      }
    }
    for (int many : new int[] {-1, 0, 1, 9, Integer.MIN_VALUE, Integer.MAX_VALUE}) {
      e.none("toldApart " + many, y -> y.toldApart(many, 0));
    }
    for (int what : new int[] {-1, 2, Integer.MIN_VALUE, Integer.MAX_VALUE}) {
      e.none("what " + what, y -> y.toldApart(2, what));
      e.none("fewer have models, what " + what, y -> y.toldApart(8, what));
    }
  }

  private static void count(Edges e) {
    e.says("Promise 32:", "0 THE MOON, 1 told COURTIERS (bits), 2 LETTERS with MODELS (bits), 3 how many LETTERS THE ORDER has, 4 RULES");
    CourtHand x = Scene.court();
    int[] due = {14, 1 | 16 | 512, 7, 7, 4, 40};
    for (int what = 0; what < due.length; what++) {
      e.due("count " + what, x.count(what), due[what]);
    }
    x.seed(65535);
    e.due("count 6", x.count(6), 65535);
    for (int what : new int[] {-1, 7, 8, 99, Integer.MIN_VALUE, Integer.MAX_VALUE}) {
      e.none("count " + what, y -> y.count(what));
    }
    for (int c = 0; c < 10; c++) {
      x.courtier(c, 0, 0);
    }
    for (int k = 0; k < 8; k++) {
      x.model(k, 0);
    }
    e.due("all courtiers", x.count(1), 1023);
    e.due("all letters", x.count(2), 255);
  }

  private static void countLetters(Edges e) {
    e.says("Promise 32:", "LETTER i of THE ORDER. NONE for others.");
    CourtHand x = new CourtHand();
    e.due("no order", x.count(100), -1);
    Scene.order(x, "H");
    e.due("100", x.count(100), 7);
    e.due("101", x.count(101), -1);
    Scene.order(x, "(A9)6B5H");
    e.due("100 of 60", x.count(100), 0);
    e.due("159 of 60", x.count(159), 7);
    e.due("160", x.count(160), -1);
    for (int what : new int[] {99, 107, 159, 160}) {
      e.none("count " + what + " of seven", y -> y.count(what));
    }
  }

  private static void nothingIsChanged(Edges e) {
    e.says("Promise 10:", "MOONS (1 to 60; as many as can) that are tried");
    CourtHand x = Scene.court();
    for (int what = 0; what < 7; what++) {
      x.courtierIs(4, what);
      x.written(4, what);
      x.clear(4, what);
      x.shape(Scene.RING, what);
      x.alike(what, 4);
      x.toldApart(what, 1);
      x.another(what, 1, 1);
      x.formOf(4, what);
      x.modelOf(what);
      x.forge(4, what);
      x.rises(60, what);
      x.tried(60, what);
      x.count(what);
    }
    x.commands();
    x.read(7);
    x.apart(7, 9);
    x.like(7, 9);
    e.same("asking", x, Scene.court());
  }
}
