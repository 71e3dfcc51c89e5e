/** The edges of the terms of the second part: tried, written, copied, another, whose, forge, alike, rises, clear. */
final class SheetEdges {
  private static final String TERMS = "Terms";

  private SheetEdges() {
  }

  static void all(Edges e) {
    tried(e);
    written(e);
    inkIsEnough(e);
    withoutForms(e);
    leftOut(e);
    placeByPlace(e);
    fewestDots(e);
    leastDots(e);
    whose(e);
    nextOne(e);
    forge(e);
    alike(e);
    byOthers(e);
    rises(e);
    likeRises(e);
    commands(e);
    clear(e);
  }

  private static void tried(Edges e) {
    e.says(TERMS, "TRIED are n MOONS by the DRAWS that will come (nothing is changed)");
    for (int n : new int[] {1, 12, 60}) {
      for (int what : new int[] {0, 1, 2, 3, 10, 24, 39}) {
        CourtHand x = Scene.court();
        x.tried(n, what);
        x.rises(n, what % 2);
        e.same("tried " + n + " " + what, x, Scene.court());
      }
      CourtHand x = Scene.court();
      int mended = x.tried(n, 0);
      int first = x.tried(n, 3);
      int faults = x.tried(n, 14);
      int rank = x.tried(n, 20);
      int ink = x.tried(n, 39);
      e.due("mended in " + n, x.moons(n), mended);
      e.due("first in " + n, x.commands(), first);
      e.due("faults in " + n, x.courtierIs(4, 2), faults);
      e.due("rank in " + n, x.courtierIs(0, 3), rank);
      e.due("ink in " + n, x.courtierIs(9, 1), ink);
    }
  }

  private static void written(Edges e) {
    e.says(TERMS, "how many LETTERS are READ as they were meant, how many as others, how many can't be; dots of INK");
    CourtHand x = new CourtHand();
    x.model(0, 0);
    x.model(1, 15);
    x.courtier(0, 0, 0);
    Scene.order(x, "A9B9");
    int[][] rows = {{0, 18, 0, 0, 36}, {1, 18, 0, 0, 45}, {3, 9, 0, 9, 54}, {7, 9, 9, 0, 63}, {15, 9, 9, 0, 72}};
    for (int[] row : rows) {
      x.form(0, 0, row[0]);
      for (int what = 0; what < 4; what++) {
        e.due("A as " + row[0] + ", what " + what, x.written(0, what), row[what + 1]);
      }
    }
    x.model(2, 0);
    x.courtier(0, 0, 0);
    e.due("like models: A can't be read", x.written(0, 2), 9);
  }

  private static void inkIsEnough(Edges e) {
    e.says(TERMS, "how many LETTERS his INK is enough for, from the first on");
    CourtHand x = Scene.letters();
    Scene.order(x, "CA2B");
    int[][] rows = {{0, 0}, {7, 0}, {8, 1}, {12, 1}, {13, 2}, {17, 2}, {18, 3}, {22, 3}, {23, 4}, {24, 4}, {9999, 4}};
    for (int[] row : rows) {
      x.courtier(0, 0, row[0]);
      e.due(row[0] + " of ink", x.written(0, 4), row[1]);
    }
    x.courtier(0, 0, 7);
    e.due("not by leaving C out", x.written(0, 4), 0);
    x.form(0, 2, 0);
    e.due("a white C needs none", x.written(0, 4), 2);
    x.courtier(0, 0, 0);
    x.form(0, 2, 0);
    e.due("no ink", x.written(0, 4), 1);
    Scene.order(x, "A9".repeat(6) + "A6");
    x.courtier(0, 0, 299);
    e.due("299 for 60 letters", x.written(0, 4), 59);
    x.courtier(0, 0, 300);
    e.due("300 for 60 letters", x.written(0, 4), 60);
  }

  private static void withoutForms(Edges e) {
    e.says(TERMS, "(as LETTERS without a FORM stand in it, it ends there)");
    CourtHand x = Scene.letters();
    x.courtier(0, 0, 9999);
    String[] orders = {"H", "HA", "AH", "ABHC", "ABC", "A9H9"};
    int[] due = {0, 0, 1, 2, 3, 9};
    for (int i = 0; i < orders.length; i++) {
      Scene.order(x, orders[i]);
      e.due("order " + orders[i], x.written(0, 4), due[i]);
    }
    x.model(7, 0);
    e.due("H has a model by now", x.written(0, 4), 18);
  }

  private static int copied(CourtHand x, int what, int... who) {
    return x.copied(Checks.type(x, Scene.bytes(who)), what);
  }

  private static void leftOut(Edges e) {
    e.says(TERMS, "(a LETTER that can't be READ is left out): how many LETTERS are left in the end");
    CourtHand x = new CourtHand();
    x.model(0, 0);
    x.model(1, 15);
    x.courtier(0, 0, 0);
    x.courtier(9, 0, 0);
    Scene.order(x, "ABAB2");
    x.form(0, 0, 1);
    e.due("1 is A still", copied(x, 100, 0), 5);
    x.form(0, 0, 3);
    e.due("3 can't be read", copied(x, 100, 0), 3);
    e.due("B at place 0", copied(x, 0, 0), 1);
    x.form(0, 0, 7);
    e.due("7 is B", copied(x, 100, 0), 5);
    x.form(9, 1, 3);
    e.due("B can't be read by 9", copied(x, 100, 0, 9), 0);
    e.due("none as they were", copied(x, 101, 0, 9), 0);
    e.due("no place 0", copied(x, 0, 0, 9), -4);
    e.due("none is left for a third", copied(x, 100, 9, 0, 9), 0);
    e.due("9 alone leaves the two A", copied(x, 100, 9), 2);
    Scene.order(x, "(A9)6A6");
    x.form(0, 0, 0);
    e.due("all 60", copied(x, 100, 0, 0, 0, 0, 0, 0, 0, 0, 0, 0, 0, 0), 60);
    e.due("the last place", copied(x, 59, 0), 0);
  }

  private static void placeByPlace(Edges e) {
    e.says(TERMS, "how many of THE ORDER's, place by place of what is left, are as they were; the LETTER at a place");
    CourtHand x = new CourtHand();
    x.model(0, 0);
    x.model(1, 15);
    x.courtier(0, 0, 0);
    x.form(0, 0, 3);
    Scene.order(x, "BABBA");
    e.due("B B B are left", copied(x, 100, 0), 3);
    e.due("the first and the third are as they were", copied(x, 101, 0), 2);
    e.due("place 2", copied(x, 2, 0), 1);
    e.due("place 3", copied(x, 3, 0), -4);
    Scene.order(x, "HB");
    e.due("without a model left out", copied(x, 100, 0), 1);
    e.due("and not in its place", copied(x, 101, 0), 0);
    Scene.order(x, "BH");
    e.due("in its place", copied(x, 101, 0), 1);
  }

  private static void fewestDots(Edges e) {
    e.says(TERMS, "ANOTHER: the fewest dots of a GRID that must change (0 to 3) so that it is READ as a LETTER");
    CourtHand x = new CourtHand();
    x.model(0, 0);
    x.model(1, 127);
    int[][] rows = {{127, 0}, {15, 0}, {7, 1}, {3, 2}, {1, 3}, {0, -2}, {Scene.ALL, 0}, {1 << 24, -2}, {7 | 1 << 24, 1}};
    for (int[] row : rows) {
      e.due(row[0] + " to B", x.another(row[0], 1, 0), row[1]);
    }
    x.model(1, 31);
    e.due("white: by 3", x.another(0, 1, 0), 3);
    x.model(1, 63);
    e.due("white: as near, so 4", x.another(0, 1, 0), -2);
    e.due("1: by 3", x.another(1, 1, 0), 3);
    x.model(2, 63);
    e.due("like models", x.another(63, 1, 0), -2);
    e.due("A is not like them", x.another(3, 0, 0), 0);
    CourtHand one = new CourtHand();
    one.model(4, 0);
    for (int dots = 0; dots <= 25; dots++) {
      e.due("the only model, " + dots + " off", one.another((1 << dots) - 1, 4, 0), 0);
    }
  }

  private static void leastDots(Edges e) {
    e.says(TERMS, "the least of such dots (bits) of like ones");
    CourtHand x = new CourtHand();
    x.model(0, 0);
    x.model(1, 127 << 18);
    int[][] rows = {{7 << 18, 1 << 21}, {15 << 18, 0}, {3 << 18, 3 << 20}, {1 << 18, 7 << 19}, {1 << 24, 7 << 18}, {7 << 22, 1 << 18},
      {5 << 18 | 1 << 24, 1 << 19}};
    for (int[] row : rows) {
      e.due(row[0] + " to B", x.another(row[0], 1, 1), row[1]);
    }
    e.due("back to A", x.another(15 << 18, 0, 1), 1 << 18);
    e.due("back to A by 3", x.another(63 << 18, 0, 1), 7 << 18);
    e.due("not by 3", x.another(127 << 18, 0, 1), -2);
    x.model(1, 1 << 24);
    e.due("the highest dot is black", x.another(1 << 24, 0, 1), 1 << 24);
  }

  private static int whose(CourtHand x, int letters, int what, int a, int b) {
    x.feed(a, b, 0, 0, 0);
    return x.whose(letters, what);
  }

  private static void whose(Edges e) {
    e.says(TERMS, "the COURTIER whose FORMS are least APART from it in all (of like ones the lowest); how far");
    CourtHand x = Scene.letters();
    x.courtier(9, 0, 0);
    x.courtier(4, 0, 0);
    e.due("like ones", whose(x, 1, 0, Scene.BAR, 0), 4);
    x.form(4, 0, Scene.BAR ^ 1);
    e.due("one dot farther", whose(x, 1, 0, Scene.BAR, 0), 9);
    e.due("one dot nearer", whose(x, 1, 0, Scene.BAR ^ 1, 0), 4);
    e.due("there", whose(x, 1, 1, Scene.BAR ^ 1, 0), 0);
    x.form(9, 1, Scene.POST ^ 2);
    e.due("in all like far", whose(x, 3, 0, Scene.BAR, Scene.POST), 4);
    e.due("one dot", whose(x, 3, 1, Scene.BAR, Scene.POST), 1);
    x.form(9, 1, Scene.POST);
    x.form(4, 0, Scene.BAR);
    e.due("all dots but one", whose(x, 3, 1, Scene.ALL ^ Scene.BAR, Scene.ALL ^ Scene.POST ^ 2), 49);
  }

  private static void nextOne(Edges e) {
    e.says(TERMS, "how far; how much more the next one's are");
    CourtHand x = Scene.letters();
    x.courtier(9, 0, 0);
    e.due("no next one", whose(x, 1, 2, Scene.BAR, 0), -2);
    x.courtier(4, 0, 0);
    e.due("as near", whose(x, 1, 2, Scene.BAR, 0), 0);
    x.form(4, 0, Scene.BAR ^ 3);
    e.due("two more, the lower one", whose(x, 1, 2, Scene.BAR, 0), 2);
    x.courtier(0, 0, 0);
    x.form(0, 0, Scene.BAR ^ 1);
    e.due("one more", whose(x, 1, 2, Scene.BAR, 0), 1);
    x.courtier(1, 0, 0);
    x.form(1, 0, Scene.ALL ^ Scene.BAR);
    e.due("not the last one", whose(x, 1, 2, Scene.BAR, 0), 1);
    e.due("4 is nearest behind him", whose(x, 1, 2, Scene.ALL ^ Scene.BAR, 0), 23);
  }

  private static void forge(Edges e) {
    e.says(TERMS, "FORGE: how many dots a COURTIER must change in all LETTERS that have a MODEL");
    CourtHand x = new CourtHand();
    x.courtier(0, 0, 0);
    x.courtier(9, 0, 0);
    e.due("no letters", x.forge(0, 9), 0);
    for (int k = 0; k < 8; k++) {
      x.model(k, k);
      e.due("as the model is", x.forge(0, 9), 25 * k);
      x.form(0, k, 0);
      x.form(9, k, Scene.ALL);
      e.due("letters up to " + k, x.forge(0, 9), 25 * (k + 1));
      e.due("and back", x.forge(9, 0), 25 * (k + 1));
    }
  }

  private static void alike(Edges e) {
    e.says(TERMS, "HANDS ALIKE: COURTIERS whose FORMS are no more than so many dots APART in all");
    CourtHand x = new CourtHand();
    e.due("nobody", x.alike(0, 100), 0);
    for (int k = 0; k < 8; k++) {
      x.model(k, 0);
    }
    x.courtier(0, 0, 0);
    e.due("one", x.alike(0, 100), 1);
    x.courtier(9, 0, 0);
    e.due("by 0", x.alike(0, 100), 1);
    e.due("the two", x.alike(0, 9), 513);
    for (int k = 0; k < 8; k++) {
      x.form(9, k, Scene.ALL);
      e.due("one dot less", x.alike(25 * k + 24, 100), 2);
      e.due("just so many", x.alike(25 * k + 25, 100), 1);
    }
    e.due("alone by 199", x.alike(199, 9), 512);
    e.due("together by 200", x.alike(200, 9), 513);
  }

  private static void byOthers(Edges e) {
    e.says(TERMS, "directly or by others: how many groups; one's (bits)");
    CourtHand x = new CourtHand();
    x.model(0, 0);
    int[] row = {5, 1, 8, 0, 9, 2, 7, 4, 6, 3};
    for (int i = 0; i < row.length; i++) {
      x.courtier(row[i], 0, 0);
      x.form(row[i], 0, (1 << 2 * i) - 1);
    }
    e.due("all by others", x.alike(2, 100), 1);
    for (int c = 0; c < 10; c++) {
      e.due("all with " + c, x.alike(2, c), 1023);
      e.due("alone " + c, x.alike(1, c), 1 << c);
    }
    e.due("each alone", x.alike(1, 100), 10);
    x.form(9, 0, Scene.ALL);
    e.due("the chain is broken", x.alike(2, 100), 3);
    e.due("its beginning", x.alike(2, 8), 1 << 5 | 1 << 1 | 1 << 8 | 1 << 0);
    e.due("its end", x.alike(2, 3), 1 << 2 | 1 << 7 | 1 << 4 | 1 << 6 | 1 << 3);
  }

  private static void rises(Edges e) {
    e.says(TERMS, "RISES: who gains most places in RANK in n MOONS that are tried");
    CourtHand x = new CourtHand();
    x.model(0, 0);
    for (int c = 0; c < 10; c++) {
      x.courtier(c, 50, 9999);
      x.form(c, 0, (1 << c) - 1);
    }
    Scene.law(x, "p10(c=9)");
    for (int n = 1; n <= 10; n++) {
      int places = Math.max(0, Math.min(9, n) - 1);
      e.due("places in " + n, x.rises(n, 1), places);
      e.due("who in " + n, x.rises(n, 0), places > 0 ? 9 : -2);
    }
    x.courtier(9, 51, 9999);
    x.form(9, 0, 511);
    e.due("all places, by age", x.rises(9, 1), 9);
  }

  private static void likeRises(Edges e) {
    e.says(TERMS, "in n MOONS that are tried (of like ones the lowest); how many");
    CourtHand x = new CourtHand();
    x.model(0, 0);
    for (int c = 0; c < 4; c++) {
      x.courtier(c, 50, 9999);
    }
    x.form(2, 0, 1);
    x.form(3, 0, 3);
    x.form(0, 0, 7);
    x.form(1, 0, 7);
    Scene.law(x, "p10(c<2)");
    e.due("0 and 1 by two places in three", x.rises(3, 1), 2);
    e.due("the lowest", x.rises(3, 0), 0);
    x.courtier(1, 51, 9999);
    x.form(1, 0, 7);
    e.due("1 is the older: his rank was 2", x.rises(3, 0), 0);
    Scene.law(x, "p10(c=1)");
    e.due("1 alone", x.rises(3, 0), 1);
  }

  private static void commands(Edges e) {
    e.says(TERMS, "COMMANDS: who is the first in RANK");
    CourtHand x = new CourtHand();
    e.due("nobody", x.commands(), -2);
    x.courtier(9, 0, 0);
    e.due("alone", x.commands(), 9);
    x.courtier(4, 0, 0);
    e.due("the lowest", x.commands(), 4);
    x.courtier(8, 1, 0);
    e.due("the older", x.commands(), 8);
    x.model(0, 0);
    x.form(8, 0, 1);
    e.due("with fewer faults", x.commands(), 4);
  }

  private static void clear(Edges e) {
    e.says(TERMS, "CLEAR: the two LETTERS with MODELS whose FORMS of one are least APART; how far");
    CourtHand x = new CourtHand();
    x.courtier(0, 0, 0);
    x.model(6, 0);
    x.model(7, Scene.ALL);
    e.due("25 of the last two", x.clear(0, 2), 25);
    e.due("G", x.clear(0, 0), 6);
    e.due("and H", x.clear(0, 1), 7);
    x.model(0, 1);
    e.due("A is 1 from G", x.clear(0, 2), 1);
    e.due("A", x.clear(0, 0), 0);
    e.due("and G", x.clear(0, 1), 6);
    x.form(0, 0, Scene.ALL ^ 1);
    e.due("A is 1 from H", x.clear(0, 1), 7);
    x.form(0, 0, 0);
    e.due("A is G", x.clear(0, 2), 0);
  }
}
