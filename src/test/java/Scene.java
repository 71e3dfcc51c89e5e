/** A court in which nothing is as it was at first, all that can be seen of a court, and short ways to texts. */
final class Scene {
  static final int BAR = 31;
  static final int POST = 1082401;
  static final int RING = 469440;
  static final int ALL = 33554431;

  private Scene() {
  }

  /** Letters A, B, C with models; courtiers 0, 4, 9; a law, an order, something kept, 40 letters on the tape. */
  static CourtHand court() {
    CourtHand x = letters();
    x.courtier(0, 30, 500);
    x.courtier(4, 40, 300);
    x.courtier(9, 99, 9999);
    x.form(0, 0, 15);
    x.form(4, 1, 1);
    x.form(9, 2, RING ^ 7);
    law(x, "p5(1=1);w4(k<2);i20(c<5);x(c=9&k=0)");
    order(x, "AB2(CD)2");
    x.seed(777);
    x.moons(5);
    x.keep();
    x.moons(9);
    x.form(9, 0, 30);
    Checks.type(x, "ABCDEFGHABCDEFGHABCDHGFEDCBAHGFEDCBADCBA");
    return x;
  }

  /** Letters A, B, C with models and nobody told. */
  static CourtHand letters() {
    CourtHand x = new CourtHand();
    x.model(0, BAR);
    x.model(1, POST);
    x.model(2, RING);
    return x;
  }

  /** The letter A alone, and courtier 0 with much ink, whose A is that grid. */
  static CourtHand scribe(int form) {
    CourtHand x = new CourtHand();
    x.model(0, BAR);
    x.courtier(0, 30, 5000);
    x.form(0, 0, form);
    return x;
  }

  static int law(CourtHand x, String text) {
    return x.law(Checks.type(x, text));
  }

  static int order(CourtHand x, String text) {
    return x.order(Checks.type(x, text));
  }

  static int blots(CourtHand x, String text) {
    return x.blots(Checks.type(x, text));
  }

  /** Bytes that stand for courtiers, or for their faults. */
  static String bytes(int... values) {
    StringBuilder out = new StringBuilder();
    for (int value : values) {
      out.append((char) value);
    }
    return out.toString();
  }

  static int next(int x) {
    return (int) ((25173L * x + 13849) % 65536);
  }

  /** A seed behind which these draws come (-1: any draw); odd and even ones always take turns. */
  static int seedFor(int... draws) {
    for (int seed = 0; seed < 65536; seed++) {
      int x = seed;
      boolean fits = true;
      for (int draw : draws) {
        x = next(x);
        fits &= draw < 0 || x % 10 == draw;
      }
      if (fits) {
        return seed;
      }
    }
    throw new IllegalArgumentException("no seed has these draws");
  }

  /** All that can be seen, the tape and what is kept too; the court is another one then. */
  static String look(CourtHand x) {
    StringBuilder out = new StringBuilder();
    see(x, out);
    int letters = x.order(Math.min(60, x.count(5)));
    note(out, "tape as order", letters);
    for (int i = 0; i < letters; i++) {
      note(out, "letter of the tape " + i, x.count(100 + i));
    }
    retell(x, out);
    note(out, "undo", x.undo() ? 1 : 0);
    see(x, out);
    return out.toString();
  }

  /** With other models it shows which forms are one's own. */
  private static void retell(CourtHand x, StringBuilder out) {
    for (int k = 0; k < 8; k++) {
      x.model(k, 1000 + k);
      for (int c = 0; c < 10; c++) {
        if ((x.count(1) >> c & 1) == 1) {
          note(out, "form by another model " + c + " " + k, x.formOf(c, k));
        }
      }
    }
  }

  private static void see(CourtHand x, StringBuilder out) {
    for (int what = 0; what < 7; what++) {
      note(out, "count " + what, x.count(what));
    }
    for (int i = 0; i < x.count(3); i++) {
      note(out, "letter " + i, x.count(100 + i));
    }
    for (int k = 0; k < 8; k++) {
      note(out, "model " + k, x.modelOf(k));
    }
    for (int c = 0; c < 10; c++) {
      if ((x.count(1) >> c & 1) == 1) {
        seeCourtier(x, c, out);
      }
    }
    for (int what = 0; what < 4; what++) {
      note(out, "tried " + what, x.tried(7, what));
    }
  }

  private static void seeCourtier(CourtHand x, int c, StringBuilder out) {
    for (int what = 0; what < 6; what++) {
      note(out, "courtier " + c + " " + what, x.courtierIs(c, what));
    }
    for (int k = 0; k < 8; k++) {
      note(out, "form " + c + " " + k, x.formOf(c, k));
    }
    for (int what = 10; what < 40; what += 10) {
      note(out, "tried " + (what + c), x.tried(7, what + c));
    }
  }

  private static void note(StringBuilder out, String what, int answer) {
    out.append(what).append(" is ").append(answer).append(';');
  }
}
