/** The edges of the texts of blots: letters A and H have models, courtiers 0 and 9 are told. */
final class BlotEdges {
  private static final String TERMS = "Terms";

  private BlotEdges() {
  }

  static void all(Edges e) {
    bytes(e);
    blanks(e);
    twentyLines(e);
    digits(e);
    capitals(e);
    signs(e);
    allWhite(e);
    eachChanges(e);
    toTheLeft(e);
    toTheRight(e);
    changePlaces(e);
    dots(e);
    behindDots(e);
    behindSigns(e);
    theEnd(e);
    lineTooMany(e);
    unknown(e);
    nothingIsDone(e);
  }

  private static CourtHand court() {
    CourtHand x = new CourtHand();
    x.model(0, Scene.BAR);
    x.model(7, Scene.POST);
    x.courtier(0, 0, 0);
    x.courtier(9, 0, 0);
    return x;
  }

  private static int blots(String text) {
    return Scene.blots(court(), text);
  }

  private static int blotted(int grid, String what) {
    CourtHand x = court();
    x.form(0, 0, grid);
    Scene.blots(x, "0A" + what);
    return x.formOf(0, 0);
  }

  private static void rows(Edges e, Object[][] rows) {
    for (Object[] row : rows) {
      e.due("blots " + row[0], blots((String) row[0]), (Integer) row[1]);
    }
  }

  private static void bytes(Edges e) {
    e.says(TERMS, "BLOTS: a TEXT of at most 120 bytes");
    CourtHand x = court();
    Checks.type(x, "0A" + "a".repeat(119));
    e.due("121 bytes", x.blots(121), -1);
    e.due("the tape stays", x.count(5), 140);
    e.due("nothing is done", x.formOf(0, 0), Scene.BAR);
    e.due("120 bytes", x.blots(120), 1);
    e.due("dot a, an even number of times", x.formOf(0, 0), Scene.BAR);
    Checks.type(x, "0A" + "a".repeat(118));
    e.due("119 bytes", x.blots(119), 1);
    e.due("dot a, an odd number of times", x.formOf(0, 0), Scene.BAR ^ 1);
    e.due("three bytes", blots("9Hy"), 1);
  }

  private static void blanks(Edges e) {
    e.says(TERMS, "BLOTS: a TEXT of at most 120 bytes, no blanks");
    rows(e, new Object[][] {{" ", -1000}, {" 0A!", -1000}, {"0 A!", -1001}, {"0A !", -1002}, {"0A! ", -1003}, {"0Aa b", -1003},
      {"0A!; 0A!", -1004}, {"0A! ;0A!", -1003}, {"0A!\n", -1003}, {"0A!\0", -1003}});
  }

  private static void twentyLines(Edges e) {
    e.says(TERMS, "LINES with a ; (59) between two (20 at most)");
    for (int lines = 1; lines <= 20; lines++) {
      CourtHand x = court();
      e.due(lines + " lines", Scene.blots(x, "0A~;".repeat(lines - 1) + "0A~"), lines);
      e.due("all of them are done", x.formOf(0, 0), lines % 2 == 0 ? Scene.BAR : Scene.ALL ^ Scene.BAR);
    }
    rows(e, new Object[][] {{"0A~;".repeat(20) + "0A~", -4080}, {"0A~:0A~", -1003}, {"0A~<0A~", -1003}, {";0A~", -1000},
      {"0A~;;0A~", -1004}});
  }

  private static void digits(Edges e) {
    e.says(TERMS, "a digit (COURTIER), a capital A to H");
    for (int sign = 0; sign < 256; sign++) {
      boolean isDigit = sign >= '0' && sign <= '9';
      int due = sign == '0' || sign == '9' ? 1 : isDigit ? -7000 : -1000;
      e.due("byte " + sign + " for a courtier", blots(Scene.bytes(sign, 'A', '!')), due);
    }
    CourtHand x = court();
    Scene.blots(x, "9A!");
    e.due("courtier 9", x.formOf(9, 0), 0);
    e.due("not courtier 0", x.formOf(0, 0), Scene.BAR);
  }

  private static void capitals(Edges e) {
    e.says(TERMS, "a digit (COURTIER), a capital A to H, then perhaps one sign");
    for (int sign = 0; sign < 256; sign++) {
      int due = sign == 'A' || sign == 'H' ? 1 : sign > 'A' && sign < 'H' ? -7001 : -1001;
      e.due("byte " + sign + " for a letter", blots(Scene.bytes('0', sign, '!')), due);
    }
    CourtHand x = court();
    Scene.blots(x, "0H!");
    e.due("letter H", x.formOf(0, 7), 0);
    e.due("not letter A", x.formOf(0, 0), Scene.BAR);
  }

  private static void signs(Edges e) {
    e.says(TERMS, "then perhaps one sign");
    for (int sign = 0; sign < 256; sign++) {
      boolean fits = "!~<>|".indexOf(sign) >= 0 || sign >= 'a' && sign <= 'y';
      e.due("byte " + sign + " behind the letter", blots(Scene.bytes('0', 'A', sign)), fits ? 1 : -1002);
    }
  }

  private static void allWhite(Edges e) {
    e.says(TERMS, "! (all dots white)");
    e.due("of all black ones", blotted(Scene.ALL, "!"), 0);
    e.due("of white ones", blotted(0, "!"), 0);
  }

  private static void eachChanges(Edges e) {
    e.says(TERMS, "~ (126: each dot changes)");
    e.due("of white ones", blotted(0, "~"), Scene.ALL);
    e.due("of black ones", blotted(Scene.ALL, "~"), 0);
    e.due("of the corners", blotted(1 | 1 << 24, "~"), Scene.ALL ^ 1 ^ 1 << 24);
  }

  private static void toTheLeft(Edges e) {
    e.says(TERMS, "< (all dots one place to the left, white comes from the right)");
    e.due("of black ones", blotted(Scene.ALL, "<"), Scene.ALL ^ Scene.POST << 4);
    for (int y = 0; y < 5; y++) {
      e.due("out of row " + y, blotted(1 << 5 * y, "<"), 0);
      e.due("from the right of row " + y, blotted(16 << 5 * y, "<"), 8 << 5 * y);
      e.due("to the edge of row " + y, blotted(2 << 5 * y, "<"), 1 << 5 * y);
    }
  }

  private static void toTheRight(Edges e) {
    e.says(TERMS, "> (to the right)");
    e.due("of black ones", blotted(Scene.ALL, ">"), Scene.ALL ^ Scene.POST);
    for (int y = 0; y < 5; y++) {
      e.due("out of row " + y, blotted(16 << 5 * y, ">"), 0);
      e.due("from the left of row " + y, blotted(1 << 5 * y, ">"), 2 << 5 * y);
      e.due("to the edge of row " + y, blotted(8 << 5 * y, ">"), 16 << 5 * y);
    }
  }

  private static void changePlaces(Edges e) {
    e.says(TERMS, "| (124: left and right change places)");
    for (int y = 0; y < 5; y++) {
      int[] across = {16, 8, 4, 2, 1};
      for (int x = 0; x < 5; x++) {
        e.due("dot " + x + " " + y, blotted(1 << 5 * y + x, "|"), across[x] << 5 * y);
      }
    }
    e.due("of black ones", blotted(Scene.ALL, "|"), Scene.ALL);
  }

  private static void dots(Edges e) {
    e.says(TERMS, "else dots: a letter a to y (dot 0 to 24) or more, each of which changes");
    for (int dot = 0; dot < 25; dot++) {
      String letter = Scene.bytes('a' + dot);
      e.due("white dot " + letter, blotted(0, letter), 1 << dot);
      e.due("black dot " + letter, blotted(Scene.ALL, letter), Scene.ALL ^ 1 << dot);
    }
    e.due("all of them", blotted(0, "abcdefghijklmnopqrstuvwxy"), Scene.ALL);
    e.due("two", blotted(0, "ay"), 1 | 1 << 24);
    e.due("one twice", blotted(0, "aa"), 0);
    e.due("one three times", blotted(0, "aaa"), 1);
    rows(e, new Object[][] {{"0Az", -1002}, {"0A`", -1002}, {"0A{", -1002}, {"0AA", -1002}});
  }

  private static void behindDots(Edges e) {
    e.says(TERMS, "FAULTS: 1 what can't stand there (the end, too); 4 a 21st LINE");
    for (int sign = 0; sign < 256; sign++) {
      int due = sign >= 'a' && sign <= 'y' ? 1 : sign == ';' ? -1004 : -1003;
      e.due("byte " + sign + " behind a dot", blots(Scene.bytes('0', 'A', 'a', sign)), due);
    }
  }

  private static void behindSigns(Edges e) {
    e.says(TERMS, "then perhaps one sign");
    for (int sign = 0; sign < 256; sign++) {
      for (char first : "!~<>|".toCharArray()) {
        e.due("byte " + sign + " behind " + first, blots(Scene.bytes('0', 'A', first, sign)), sign == ';' ? -1004 : -1003);
      }
    }
  }

  private static void theEnd(Edges e) {
    e.says(TERMS, "FAULTS: 1 what can't stand there (the end, too); 4 a 21st LINE");
    String whole = "0A!;9Hay";
    int[] due = {-1001, -1002, 1, -1004, -1005, -1006, 2, 2};
    for (int n = 1; n <= whole.length(); n++) {
      CourtHand x = court();
      Checks.type(x, whole);
      e.due(n + " bytes of " + whole, x.blots(n), due[n - 1]);
    }
  }

  private static void lineTooMany(Edges e) {
    e.says(TERMS, "4 a 21st LINE, at its digit (if that can stand there)");
    String twenty = "0A~;".repeat(20);
    rows(e, new Object[][] {{twenty + "0", -4080}, {twenty + "9A~", -4080}, {twenty + "0I~", -4080}, {twenty, -1080},
      {twenty + "A", -1080}, {twenty + ";", -1080}, {twenty + "/", -1080}, {twenty + ":", -1080}, {"0Aab;".repeat(20) + "0", -4100},
      {"0A~;".repeat(19) + "0A~ ", -1079}});
  }

  private static void unknown(Edges e) {
    e.says(TERMS, "7 a COURTIER that is not told, a LETTER without a MODEL, at it (behind 4)");
    rows(e, new Object[][] {{"1", -7000}, {"8A!", -7000}, {"1I!", -7000}, {"1B!", -7000}, {"0B", -7001}, {"0G!", -7001},
      {"9B?", -7001}, {"0A!;1A!", -7004}, {"0A!;0B!", -7005}, {"0A~;".repeat(20) + "1A~", -4080},
      {"0A~;".repeat(19) + "1A~", -7076}, {"0A~;".repeat(19) + "0B~", -7077}, {"0A?;1A!", -1002}});
    CourtHand x = new CourtHand();
    e.due("nobody, no letter", Scene.blots(x, "0A!"), -7000);
    x.courtier(0, 0, 0);
    e.due("no letter", Scene.blots(x, "0A!"), -7001);
    x.model(0, 5);
    e.due("both", Scene.blots(x, "0A!"), 1);
  }

  private static void nothingIsDone(Edges e) {
    e.says(TERMS, "Nothing is done by BLOTS with a FAULT");
    String[] texts = {"0A!;", "0A~;0B<;4C>;0", "0A!;4B|;9Cay!", "0A!;1A!", "0Aa;0D!", "0A~;".repeat(19) + "0B~;0A", "0Aaa;4"};
    int[] due = {-1004, -1013, -1012, -7004, -7005, -4080, -1006};
    for (int i = 0; i < texts.length; i++) {
      int n = texts[i].length();
      e.empties(texts[i], x -> x.blots(n), due[i]);
    }
  }
}
