/** The edges of the terms of the third part: shapes, likeness, letters told apart, what is kept. */
final class ShapeEdges {
  private static final String TERMS = "Terms";

  private ShapeEdges() {
  }

  static void all(Edges e) {
    loopsAtTheEdge(e);
    loopsBySides(e);
    strokes(e);
    cross(e);
    crossNone(e);
    mirrored(e);
    turned(e);
    like(e);
    likeTheLeast(e);
    toldApart(e);
    toldApartLeastBits(e);
    penOddOnes(e);
    penParts(e);
    penNone(e);
    kept(e);
    keptLast(e);
    check(e);
    refused(e);
    ownMemory(e);
  }

  private static int shape(int what, String... rows) {
    return new CourtHand().shape(Checks.grid(rows), what);
  }

  private static void loopsAtTheEdge(Edges e) {
    e.says(TERMS, "and are shut in (none of them at the edge): how many such");
    CourtHand x = new CourtHand();
    e.due("white", x.shape(0, 0), 0);
    e.due("black", x.shape(Scene.ALL, 0), 0);
    for (int dot = 0; dot < 25; dot++) {
      boolean inside = dot % 5 > 0 && dot % 5 < 4 && dot / 5 > 0 && dot / 5 < 4;
      e.due("dot " + dot + " is white", x.shape(Scene.ALL ^ 1 << dot, 0), inside ? 1 : 0);
    }
    e.due("nine white dots", shape(0, "#####", "#...#", "#...#", "#...#", "#####"), 1);
    e.due("with one at the edge", shape(0, "##.##", "#...#", "#...#", "#...#", "#####"), 0);
    e.due("open at the left", shape(0, "#####", "#...#", "....#", "#...#", "#####"), 0);
    e.due("open at the right", shape(0, "#####", "#...#", "#....", "#...#", "#####"), 0);
    e.due("open below", shape(0, "#####", "#...#", "#...#", "#...#", "###.#"), 0);
  }

  private static void loopsBySides(Edges e) {
    e.says(TERMS, "LOOPS of a GRID: white dots that hang together (by sides)");
    e.due("by a side", shape(0, "#####", "#..##", "#####", "#####", "#####"), 1);
    e.due("by a corner", shape(0, "#####", "#.###", "##.##", "#####", "#####"), 2);
    e.due("by a corner to the edge", shape(0, ".####", "#.###", "#####", "#####", "#####"), 1);
    e.due("five at the most", shape(0, "#####", "#.#.#", "##.##", "#.#.#", "#####"), 5);
    e.due("four", shape(0, "#####", "##.##", "#.#.#", "##.##", "#####"), 4);
    e.due("one round a black dot", shape(0, "#####", "#...#", "#.#.#", "#...#", "#####"), 1);
  }

  private static void strokes(Edges e) {
    e.says(TERMS, "STROKES: black dots that hang together (by sides or corners): how many such");
    CourtHand x = new CourtHand();
    e.due("white", x.shape(0, 1), 0);
    e.due("black", x.shape(Scene.ALL, 1), 1);
    e.due("one dot", x.shape(1 << 24, 1), 1);
    e.due("by a corner", shape(1, "#....", ".#...", "#....", ".....", "....."), 1);
    e.due("one apart", shape(1, "#.#..", ".....", "#.#..", ".....", "....."), 4);
    e.due("nine at the most", shape(1, "#.#.#", ".....", "#.#.#", ".....", "#.#.#"), 9);
    e.due("not round the edge", shape(1, "....#", "#....", "....#", "#....", "....."), 4);
    e.due("a snake", shape(1, "#####", "....#", "#####", "#....", "#####"), 1);
  }

  private static void cross(Edges e) {
    e.says(TERMS, "CROSS: the largest n so that some black dot has n black ones above, below, to the left, to the right of it");
    e.due("1", shape(2, ".#...", "###..", ".#...", ".....", "....."), 1);
    e.due("none above", shape(2, ".....", "###..", ".#...", ".....", "....."), 0);
    e.due("none below", shape(2, ".#...", "###..", ".....", ".....", "....."), 0);
    e.due("none to the left", shape(2, ".#...", ".##..", ".#...", ".....", "....."), 0);
    e.due("none to the right", shape(2, ".#...", "##...", ".#...", ".....", "....."), 0);
    e.due("white itself", shape(2, ".#...", "#.#..", ".#...", ".....", "....."), 0);
    e.due("2 is the largest", shape(2, "..#..", "..#..", "#####", "..#..", "..#.."), 2);
    e.due("an arm too short", shape(2, "..#..", "..#..", "#####", "..#..", "....."), 1);
    e.due("all", new CourtHand().shape(Scene.ALL, 2), 2);
    int[][] centres = {{6, 1}, {18, 1}, {2, 0}, {10, 0}, {14, 0}, {22, 0}};
    for (int[] row : centres) {
      int at = row[0];
      int arms = 1 << at | (at % 5 > 0 ? 1 << at - 1 : 0) | (at % 5 < 4 ? 2 << at : 0) | (at > 4 ? 1 << at - 5 : 0) | 32 << at & Scene.ALL;
      e.due("at dot " + at, new CourtHand().shape(arms, 2), row[1]);
    }
  }

  private static void crossNone(Edges e) {
    e.says(TERMS, "(0 if a dot is black; none is: -2)");
    CourtHand x = new CourtHand();
    e.due("none is black", x.shape(0, 2), -2);
    for (int dot = 0; dot < 25; dot++) {
      e.due("dot " + dot, x.shape(1 << dot, 2), 0);
    }
  }

  private static void mirrored(Edges e) {
    e.says(TERMS, "a GRID with left and right changed");
    CourtHand x = new CourtHand();
    e.due("white", x.shape(0, 4), 0);
    e.due("black", x.shape(Scene.ALL, 4), Scene.ALL);
    for (int dot = 0; dot < 25; dot++) {
      e.due("dot " + dot, x.shape(1 << dot, 4), 1 << dot / 5 * 5 + 4 - dot % 5);
    }
  }

  private static void turned(Edges e) {
    e.says(TERMS, "a quarter turned to the right (what is above comes to the right)");
    CourtHand x = new CourtHand();
    e.due("above comes to the right", x.shape(Scene.BAR, 5), Scene.POST << 4);
    e.due("the right comes below", x.shape(Scene.POST << 4, 5), Scene.BAR << 20);
    e.due("below comes to the left", x.shape(Scene.BAR << 20, 5), Scene.POST);
    e.due("the left comes above", x.shape(Scene.POST, 5), Scene.BAR);
    int[][] rows = {{0, 4}, {4, 24}, {24, 20}, {20, 0}, {12, 12}, {1, 9}, {5, 3}};
    for (int[] row : rows) {
      e.due("dot " + row[0], x.shape(1 << row[0], 5), 1 << row[1]);
    }
  }

  private static void like(Edges e) {
    e.says(TERMS, "0 as it is, 1 to 3 turned so many quarters to the right, 4 to 7 mirrored first, then turned (4: not)");
    CourtHand x = new CourtHand();
    int hook = Checks.grid("##...", "#....", ".....", ".....", ".#...");
    int shown = hook;
    for (int how = 0; how < 8; how++) {
      shown = how == 4 ? x.shape(hook, 4) : shown;
      e.due("how " + how, x.like(hook, shown), how);
      shown = x.shape(shown, 5);
    }
    e.due("not", x.like(hook, hook ^ 1 << 24), -2);
    e.due("not, with as many dots", x.like(hook, hook ^ 1 ^ 1 << 12), -2);
    e.due("white is not black", x.like(0, Scene.ALL), -2);
  }

  private static void likeTheLeast(Edges e) {
    e.says(TERMS, "then turned (4: not); the least");
    CourtHand x = new CourtHand();
    e.due("white", x.like(0, 0), 0);
    e.due("black", x.like(Scene.ALL, Scene.ALL), 0);
    e.due("1 or 5", x.like(Scene.BAR, Scene.POST << 4), 1);
    e.due("2 or 6", x.like(Scene.BAR, Scene.BAR << 20), 2);
    e.due("3 or 7", x.like(Scene.BAR, Scene.POST), 3);
    e.due("1, 2 or 3", x.like(1, 1 << 4), 1);
    int half = Checks.grid("##...", ".....", ".....", ".....", "...##");
    e.due("0 or 2", x.like(half, half), 0);
    e.due("1 or 3", x.like(half, x.shape(half, 5)), 1);
    e.due("4 or 6", x.like(half, x.shape(half, 4)), 4);
    e.due("5 or 7", x.like(half, x.shape(x.shape(half, 4), 5)), 5);
  }

  private static void toldApart(Edges e) {
    e.says(TERMS, "TOLD APART: of LETTERS with MODELS k (2 to 8) so that the two least APART of them are as far APART as can be");
    CourtHand x = new CourtHand();
    for (int k = 0; k < 8; k++) {
      x.model(k, (1 << 3 * k) - 1);
    }
    int[] far = {0, 0, 21, 9, 6, 3, 3, 3, 3};
    for (int many = 2; many <= 8; many++) {
      e.due("how far " + many, x.toldApart(many, 0), far[many]);
    }
    e.due("all", x.toldApart(8, 1), 255);
    e.due("the first and the last", x.toldApart(2, 1), 129);
    e.due("three", x.toldApart(3, 1), 1 | 8 | 64);
    x.model(7, 0);
    e.due("two like ones", x.toldApart(8, 0), 0);
    e.due("seven do without one", x.toldApart(7, 0), 3);
    e.due("the least bits of seven", x.toldApart(7, 1), 127);
    x.model(0, 0);
    x.model(1, Scene.ALL);
    e.due("25 is the farthest", x.toldApart(2, 0), 25);
  }

  private static void toldApartLeastBits(Edges e) {
    e.says(TERMS, "how far; which (of like ones the least bits)");
    CourtHand x = new CourtHand();
    for (int k = 0; k < 8; k++) {
      x.model(k, 7 << 3 * k);
    }
    for (int many = 2; many <= 8; many++) {
      e.due("the least of " + many, x.toldApart(many, 1), (1 << many) - 1);
      e.due("all as far", x.toldApart(many, 0), 6);
    }
    x.model(0, 7 << 21);
    e.due("A is like H", x.toldApart(7, 1), 127);
    e.due("two aside", x.toldApart(2, 1), 3);
    CourtHand y = new CourtHand();
    y.model(3, 0);
    y.model(5, 7);
    y.model(6, 7);
    e.due("D and F, not D and G", y.toldApart(2, 1), 8 | 32);
  }

  private static void penOddOnes(Edges e) {
    e.says(TERMS, "half the black dots that have an odd number of black neighbours");
    e.due("a line", shape(6, "#####", ".....", ".....", ".....", "....."), 0);
    e.due("two", shape(6, "##...", ".....", ".....", ".....", "....."), 0);
    e.due("a ring", shape(6, "#####", "#...#", "#...#", "#...#", "#####"), 0);
    e.due("a T: four odd ones", shape(6, "###..", ".#...", ".....", ".....", "....."), 1);
    e.due("a cross: four odd ones", shape(6, ".#...", "###..", ".#...", ".....", "....."), 1);
    e.due("a block of six: two odd ones", shape(6, "###..", "###..", ".....", ".....", "....."), 0);
    e.due("all: twelve odd ones", new CourtHand().shape(Scene.ALL, 6), 5);
    e.due("a comb", shape(6, "#####", "#.#.#", ".....", ".....", "....."), 1);
  }

  private static void penParts(Edges e) {
    e.says(TERMS, "of each part that hangs together by sides one at least; less one");
    e.due("one dot", shape(6, "#....", ".....", ".....", ".....", "....."), 0);
    e.due("two by a corner", shape(6, "#....", ".#...", ".....", ".....", "....."), 1);
    e.due("two rings of four", shape(6, "##.##", "##.##", ".....", ".....", "....."), 1);
    e.due("a ring and a dot in it", shape(6, "#####", "#...#", "#.#.#", "#...#", "#####"), 1);
    e.due("a T and a dot", shape(6, "###.#", ".#...", ".....", ".....", "....."), 2);
    e.due("two T", shape(6, "###..", ".#...", ".....", "..#..", ".###."), 3);
    e.due("a ring on a dot above it", shape(6, "..#..", ".###.", ".#.#.", ".###.", "....."), 0);
    e.due("a ring on a dot beside it", shape(6, "#....", "#.###", "###.#", "..###", "....."), 0);
    e.due("thirteen dots", shape(6, "#.#.#", ".#.#.", "#.#.#", ".#.#.", "#.#.#"), 12);
  }

  private static void penNone(Edges e) {
    e.says(TERMS, "less one (no black dot: 0)");
    CourtHand x = new CourtHand();
    e.due("no black dot", x.shape(0, 6), 0);
    for (int dot = 0; dot < 25; dot++) {
      e.due("dot " + dot + " alone", x.shape(1 << dot, 6), 0);
    }
  }

  private static void kept(Edges e) {
    e.says(TERMS, "KEPT: COURTIERS, FORMS, THE MOON, X");
    CourtHand x = Scene.court();
    x.keep();
    x.courtier(0, 1, 1);
    x.courtier(7, 1, 1);
    x.form(4, 1, 77);
    x.form(4, 2, 78);
    x.moons(13);
    x.seed(5);
    e.due("undone", x.undo(), true);
    CourtHand y = Scene.court();
    y.keep();
    e.same("all that is kept", x, y);
    CourtHand z = Scene.court();
    z.check(0);
    z.keep();
    z.model(0, 1);
    z.model(7, 2);
    Scene.law(z, "p1(1=1)");
    Scene.order(z, "H9");
    z.undo();
    e.due("models are not", z.modelOf(0), 1);
    e.due("a new model is not", z.count(2), 7 | 128);
    e.due("the law is not", z.count(4), 1);
    e.due("the order is not", z.count(3), 9);
    Checks.type(z, "A");
    z.undo();
    e.due("the tape is not", z.count(5), 20);
  }

  private static void keptLast(Edges e) {
    e.says(TERMS, "UNDONE: as they were KEPT last");
    CourtHand x = new CourtHand();
    x.courtier(0, 1, 1);
    x.keep();
    x.courtier(0, 2, 2);
    x.keep();
    x.courtier(0, 3, 3);
    x.undo();
    e.due("as the last", x.courtierIs(0, 0), 2);
    x.courtier(0, 4, 4);
    x.undo();
    e.due("once more", x.courtierIs(0, 0), 2);
    x.courtier(0, 5, 5);
    x.moons(1);
    x.keep();
    x.undo();
    e.due("with nothing between", x.courtierIs(0, 0), 5);
    e.due("the moon", x.count(0), 1);
  }

  private static void check(Edges e) {
    e.says(TERMS, "CHECK: FAULTS of COURTIERS: right, or the first that is not so");
    CourtHand x = new CourtHand();
    x.model(0, 0);
    int[] faults = new int[10];
    for (int c = 0; c < 10; c++) {
      x.courtier(c, 0, 0);
      x.form(c, 0, (1 << c) - 1);
      faults[c] = c;
    }
    e.due("right", x.check(Checks.type(x, Scene.bytes(faults))), -1);
    for (int c = 9; c >= 0; c--) {
      faults[c]++;
      e.due("one too many for " + c, x.check(Checks.type(x, Scene.bytes(faults))), c);
      faults[c] = (c + 255) % 256;
      e.due("one too few for " + c, x.check(Checks.type(x, Scene.bytes(faults))), c);
    }
  }

  private static void refused(Edges e) {
    e.says(TERMS, "A call that is refused (NONE, false) changes nothing but the tape, where it is told.");
    e.empties(Scene.bytes(9, 9, 9), x -> x.check(0), -1);
    e.empties("I", x -> x.order(1), -1000);
    e.leaves("check 41", x -> x.check(41), -2);
    e.denied("courtier 10", x -> x.courtier(10, 0, 0));
  }

  private static void ownMemory(Edges e) {
    e.says(TERMS, "All memory is the court's own.");
    CourtHand x = Scene.court();
    CourtHand other = Scene.court();
    other.model(0, 3);
    other.courtier(0, 3, 3);
    other.keep();
    other.moons(7);
    other.check(0);
    Scene.law(other, "x(1=1)");
    Scene.order(other, "H");
    e.same("another court", x, Scene.court());
  }
}
