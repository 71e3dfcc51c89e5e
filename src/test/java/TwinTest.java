import java.util.Random;

/** Runs of calls by drawn numbers (always the same): the class and its twin must answer alike. */
public final class TwinTest {
  private static final int RUNS = 300;
  private static final int CALLS = 500;
  private static final Checks T = new Checks();

  private final Random dice;
  private final CourtHand x = new CourtHand();
  private final Twin y = new Twin();
  private final int run;

  private TwinTest(int run) {
    this.run = run;
    dice = new Random(run);
  }

  public static void main(String[] args) {
    for (int run = 1; run <= RUNS; run++) {
      TwinTest test = new TwinTest(run);
      test.begin();
      for (int call = 0; call < CALLS; call++) {
        test.oneCall();
      }
    }
    T.end();
  }

  private int below(int n) {
    return dice.nextInt(n);
  }

  /** Mostly within 0 and most, now and then one beyond, or as far beyond as can be. */
  private int near(int most) {
    int[] beyond = {-1, most + 1, -1, most + 1, Integer.MIN_VALUE, Integer.MAX_VALUE};
    return below(30) == 0 ? beyond[below(beyond.length)] : below(most + 1);
  }

  private int grid() {
    int[] some = {31, 1082401, 469440, 145536, 33554431, 0, 97, 17318416};
    int kind = below(12);
    if (kind == 0) {
      return below(3) == 0 ? below(2) == 0 ? -1 : 33554432 : dice.nextInt();
    }
    if (kind < 6) {
      return some[below(8)] ^ 1 << below(25);
    }
    if (kind < 9) {
      return some[below(8)];
    }
    return dice.nextInt() & (kind == 9 ? dice.nextInt() | 1 << below(25) : -1) & 33554431;
  }

  private void due(String call, long got, long want) {
    T.due("run " + run + ": " + call, got, want);
  }

  private void due(String call, boolean got, boolean want) {
    T.due("run " + run + ": " + call, got, want);
  }

  private void begin() {
    for (int k = 0; k < below(9); k++) {
      int g = grid();
      due("model", x.model(k, g), y.model(k, g));
    }
    for (int i = below(6); i > 0; i--) {
      tellCourtier();
    }
  }

  private void tellCourtier() {
    int c = near(9);
    int age = below(2) == 0 ? 50 : near(99);
    int ink = below(2) == 0 ? near(9999) : below(200);
    due("courtier " + c, x.courtier(c, age, ink), y.courtier(c, age, ink));
  }

  private void type(String text) {
    for (int from = 0; from < text.length(); from += 20) {
      int[] w = new int[5];
      for (int i = 0; i < 20; i++) {
        int sign = from + i < text.length() ? text.charAt(from + i) & 255 : below(256);
        w[i / 4] = w[i / 4] << 8 | sign;
      }
      due("feed", x.feed(w[0], w[1], w[2], w[3], w[4]), y.feed(w));
    }
  }

  /** Now and then a sign is changed, left out or put in, so that faults come up everywhere. */
  private String blurred(String text, String signs) {
    if (below(3) > 0 || text.isEmpty()) {
      return text;
    }
    int at = below(text.length());
    String sign = below(8) == 0 ? "" + (char) below(256) : "" + signs.charAt(below(signs.length()));
    int kind = below(4);
    if (kind == 0) {
      return text.substring(0, at) + text.substring(at + 1);
    }
    if (kind == 1) {
      return text.substring(0, at + 1);
    }
    return text.substring(0, at) + sign + text.substring(kind == 2 ? at + 1 : at);
  }

  private String sum(int depth) {
    StringBuilder out = new StringBuilder(factor(depth));
    for (int i = below(3); i > 0; i--) {
      out.append("+-*/%".charAt(below(5))).append(factor(depth));
    }
    return out.toString();
  }

  private String factor(int depth) {
    int kind = below(10);
    if (kind < 2 && depth > 0) {
      return "[" + sum(depth - 1) + "]";
    }
    if (kind < 5) {
      return "" + below(below(9) == 0 ? 100000 : 6);
    }
    return "" + "calgskfdm".charAt(below(9));
  }

  private String test(int depth) {
    int kind = below(8);
    if (kind == 0 && depth > 0) {
      return "!" + test(depth - 1);
    }
    if (kind == 1 && depth > 0) {
      return "(" + condition(depth - 1) + ")";
    }
    return sum(depth) + "<>=".charAt(below(3)) + sum(depth);
  }

  private String condition(int depth) {
    StringBuilder out = new StringBuilder(test(depth));
    for (int i = below(3); i > 0; i--) {
      out.append("&|".charAt(below(2))).append(test(depth));
    }
    return out.toString();
  }

  private String lawText() {
    StringBuilder out = new StringBuilder();
    int rules = below(12) == 0 ? 15 + below(4) : 1 + below(5);
    for (int i = 0; i < rules; i++) {
      char kind = "ppwwiix".charAt(below(7));
      boolean small = rules > 10;
      String amount = kind == 'x' ? "" : below(2) == 0 ? "" + below(kind == 'i' ? 120 : 12) : sum(small ? 0 : 2);
      String when = small || below(3) == 0 ? "1=" + below(2) : condition(1 + below(6));
      out.append(i > 0 ? ";" : "").append(kind).append(amount).append('(').append(when).append(')');
    }
    return out.toString();
  }

  private String orderText(int depth) {
    StringBuilder out = new StringBuilder();
    for (int i = 1 + below(4); i > 0; i--) {
      if (depth > 0 && below(3) == 0) {
        out.append('(').append(orderText(depth - 1)).append(')');
      } else {
        out.append((char) ('A' + below(8)));
      }
      if (below(3) == 0) {
        out.append(2 + below(8));
      }
    }
    return out.toString();
  }

  private String blotsText() {
    StringBuilder out = new StringBuilder();
    int told = x.count(1);
    int letters = x.count(2);
    int lines = below(12) == 0 ? 18 + below(5) : 1 + below(5);
    for (int i = 0; i < lines; i++) {
      int c = below(10);
      int k = below(8);
      for (int t = 0; t < 9 && (told >> c & 1) == 0 && below(20) > 0; t++) {
        c = below(10);
      }
      for (int t = 0; t < 9 && (letters >> k & 1) == 0 && below(20) > 0; t++) {
        k = below(8);
      }
      out.append(i > 0 ? ";" : "").append(c).append((char) ('A' + k));
      if (below(2) == 0) {
        out.append("!~<>|".charAt(below(5)));
      } else {
        for (int d = 1 + below(4); d > 0; d--) {
          out.append((char) ('a' + below(25)));
        }
      }
    }
    return out.toString();
  }

  /** How many bytes to ask for: mostly the text's, at times others. */
  private int asked(String text) {
    return below(25) == 0 ? near(260) : text.length();
  }

  private void oneCall() {
    switch (below(16)) {
      case 0, 1 -> tell();
      case 2, 3 -> texts();
      case 4 -> moons();
      case 5, 6 -> tries();
      case 7 -> copies();
      case 8 -> sheets();
      case 9 -> keeping();
      case 10 -> checking();
      default -> asking();
    }
  }

  private void tell() {
    int c = near(9);
    int k = near(7);
    int g = grid();
    switch (below(8)) {
      case 0 -> due("model", x.model(k, g), y.model(k, g));
      case 1 -> tellCourtier();
      default -> due("form " + c + " " + k, x.form(c, k, g), y.form(c, k, g));
    }
  }

  private void texts() {
    int kind = below(3);
    String text = kind == 0 ? blurred(lawText(), "pwix0123456789+-*/%[]()!&|<>=;calgskfdm")
        : kind == 1 ? blurred(orderText(1 + below(3)), "ABCDEFGHI()0123456789")
        : blurred(blotsText(), "0123456789ABCDEFGHabcyz!~<>|;");
    type(text);
    int n = asked(text);
    if (kind == 0) {
      due("law " + text, x.law(n), y.law(n));
    } else if (kind == 1) {
      due("order " + text, x.order(n), y.order(n));
    } else {
      due("blots " + text, x.blots(n), y.blots(n));
    }
    due("tape", x.count(5), y.count(5));
    if (y.count(5) > 0) {
      due("empty", x.check(0), y.check(0));
    }
  }

  private void moons() {
    int n = below(4) == 0 ? near(60) : 1 + below(3);
    due("moons " + n, x.moons(n), y.moons(n));
  }

  private void tries() {
    int n = below(6) == 0 ? near(60) : 1 + below(5);
    int what = below(2) == 0 ? near(3) : 10 + below(31);
    due("tried " + n + " " + what, x.tried(n, what), y.tried(n, what));
    int who = below(3);
    due("rises " + n + " " + who, x.rises(n, who), y.rises(n, who));
  }

  private int toldOne() {
    int told = x.count(1);
    int c = below(10);
    for (int t = 0; t < 9 && (told >> c & 1) == 0; t++) {
      c = below(10);
    }
    return c;
  }

  private void copies() {
    StringBuilder who = new StringBuilder();
    int n = 1 + below(12);
    for (int i = 0; i < n; i++) {
      who.append((char) (below(40) == 0 ? below(256) : toldOne()));
    }
    type(who.toString());
    int asked = below(20) == 0 ? near(13) : n;
    int what = below(3) == 0 ? 100 + below(2) : below(2) == 0 ? near(59) : below(10);
    due("copied " + asked + " " + what, x.copied(asked, what), y.copied(asked, what));
    due("tape", x.count(5), y.count(5));
    if (y.count(5) > 0) {
      due("empty", x.check(0), y.check(0));
    }
  }

  private void sheets() {
    for (int i = 1 + below(2); i > 0; i--) {
      int[] w = new int[5];
      for (int j = 0; j < 5; j++) {
        w[j] = below(15) == 0 ? dice.nextInt() : grid() & 33554431;
      }
      due("feed", x.feed(w[0], w[1], w[2], w[3], w[4]), y.feed(w));
    }
    int letters = below(5) == 0 ? near(256) : below(256) & x.count(2);
    int what = near(2);
    due("whose " + letters + " " + what, x.whose(letters, what), y.whose(letters, what));
    due("tape", x.count(5), y.count(5));
    if (y.count(5) > 0) {
      due("empty", x.check(0), y.check(0));
    }
  }

  private void keeping() {
    switch (below(4)) {
      case 0 -> due("keep", x.keep(), y.keep());
      case 1 -> due("undo", x.undo(), y.undo());
      case 2 -> {
        int s = near(65535);
        due("seed " + s, x.seed(s), y.seed(s));
      }
      default -> {
        for (int what = 0; what < 8; what++) {
          due("count " + what, x.count(what), y.count(what));
        }
        int i = 95 + below(70);
        due("count " + i, x.count(i), y.count(i));
      }
    }
  }

  private void checking() {
    StringBuilder text = new StringBuilder();
    for (int c = 0; c < 10; c++) {
      int faults = Math.max(0, y.courtierIs(c, 2));
      text.append((char) (below(25) == 0 ? below(256) : faults));
    }
    type(text.toString());
    int n = below(15) == 0 ? near(30) : below(11);
    due("check " + n, x.check(n), y.check(n));
    due("tape", x.count(5), y.count(5));
    if (y.count(5) > 0) {
      due("empty", x.check(0), y.check(0));
    }
  }

  private void asking() {
    int c = below(10) == 0 ? near(9) : toldOne();
    int d = below(10) == 0 ? near(9) : toldOne();
    int k = near(7);
    int g = grid();
    int h = below(3) == 0 ? y.shape(g, 4 + below(2)) : grid();
    switch (below(14)) {
      case 0 -> {
        int what = near(5);
        due("courtierIs " + c + " " + what, x.courtierIs(c, what), y.courtierIs(c, what));
      }
      case 1 -> due("formOf " + c + " " + k, x.formOf(c, k), y.formOf(c, k));
      case 2 -> due("modelOf " + k, x.modelOf(k), y.modelOf(k));
      case 3 -> due("read " + g, x.read(g), y.read(g));
      case 4 -> due("apart " + g + " " + h, x.apart(g, h), y.apart(g, h));
      case 5 -> {
        int what = near(4);
        due("written " + c + " " + what, x.written(c, what), y.written(c, what));
      }
      case 6 -> {
        if (below(6) == 0) {
          int what = near(1);
          due("another " + g + " " + k + " " + what, x.another(g, k, what), y.another(g, k, what));
        }
      }
      case 7 -> due("forge " + c + " " + d, x.forge(c, d), y.forge(c, d));
      case 8 -> {
        int dots = below(2) == 0 ? near(200) : below(60);
        int what = below(3) == 0 ? 100 : c;
        due("alike " + dots + " " + what, x.alike(dots, what), y.alike(dots, what));
      }
      case 9 -> due("commands", x.commands(), y.commands());
      case 10 -> {
        int what = near(2);
        due("clear " + c + " " + what, x.clear(c, what), y.clear(c, what));
      }
      case 11 -> {
        int what = near(6);
        due("shape " + g + " " + what, x.shape(g, what), y.shape(g, what));
      }
      case 12 -> due("like " + g + " " + h, x.like(g, h), y.like(g, h));
      default -> {
        int many = near(8);
        int what = near(1);
        due("toldApart " + many + " " + what, x.toldApart(many, what), y.toldApart(many, what));
      }
    }
  }
}
