/** What the project's tests share: counting wrong answers, and texts for the tape. */
final class Checks {
  private int wrong = 0;
  private int asked = 0;

  void due(String what, long got, long want) {
    asked++;
    if (got != want) {
      wrong++;
      if (wrong <= 40) {
        System.out.println(what + " answered " + got + ", due is " + want);
      }
    }
  }

  void due(String what, boolean got, boolean want) {
    due(what, got ? 1 : 0, want ? 1 : 0);
  }

  /** Feeds a text, filled up with zeros to a multiple of twenty bytes: how many bytes the text has. */
  static int type(CourtHand x, String text) {
    for (int from = 0; from < text.length(); from += 20) {
      int[] words = new int[5];
      for (int i = 0; i < 20; i++) {
        int sign = from + i < text.length() ? text.charAt(from + i) & 255 : 0;
        words[i / 4] = words[i / 4] << 8 | sign;
      }
      x.feed(words[0], words[1], words[2], words[3], words[4]);
    }
    return text.length();
  }

  /** A grid by its rows from the top, '#' for black. */
  static int grid(String... rows) {
    int grid = 0;
    for (int y = 0; y < rows.length; y++) {
      for (int dx = 0; dx < rows[y].length(); dx++) {
        if (rows[y].charAt(dx) == '#') {
          grid |= 1 << 5 * y + dx;
        }
      }
    }
    return grid;
  }

  void end() {
    System.out.println(asked + " answers, " + wrong + " not as due");
    if (wrong != 0 || asked == 0) {
      System.exit(1);
    }
  }
}
