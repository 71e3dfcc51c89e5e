/** The edges of promises 5 to 8, 17, 19 and 31: what is fed, and what is read from the tape. */
final class TapeEdges {
  private TapeEdges() {
  }

  static void all(Edges e) {
    feed(e);
    fullTape(e);
    law(e);
    lawNone(e);
    order(e);
    orderNone(e);
    blots(e);
    blotsNone(e);
    copied(e);
    copiedNotTold(e);
    copiedPlaces(e);
    copiedNoPlace(e);
    copiedNone(e);
    whose(e);
    whoseEight(e);
    whoseGrids(e);
    whoseNobody(e);
    whoseNone(e);
    check(e);
    checkNotTold(e);
    checkNone(e);
  }

  private static CourtHand typed(String text) {
    CourtHand x = Scene.court();
    x.check(0);
    Checks.type(x, text);
    return x;
  }

  private static void feed(Edges e) {
    e.says("Promise 5:", "Twenty bytes come behind the tape, the highest of each int first: how many it has");
    CourtHand x = new CourtHand();
    e.due("twenty", x.feed(0x41424344, 0x45464748, 0x48474645, 0x44434241, 0x41424344), 20);
    e.due("forty", x.feed(0x42424242, 0x42424242, 0x42424242, 0x42424242, 0x42424248), 40);
    e.due("an order of them", x.order(40), 40);
    String due = "ABCDEFGHHGFEDCBAABCDBBBBBBBBBBBBBBBBBBBH";
    for (int i = 0; i < 40; i++) {
      e.due("byte " + i, x.count(100 + i), due.charAt(i) - 'A');
    }
    x.model(0, 0);
    x.model(1, 0);
    x.courtier(0, 0, 0);
    x.form(0, 0, Scene.ALL);
    for (int high : new int[] {0, 127, 128, 255}) {
      x.feed(high << 24, 0, 0, 0, 0);
      e.due("byte " + high + " is no 25", x.check(1), 0);
    }
    x.feed(25 << 24, 0, 0, 0, 0);
    e.due("byte 25", x.check(1), -1);
    for (int k = 0; k < 8; k++) {
      x.model(k, 0);
      x.form(0, k, Scene.ALL);
    }
    x.feed(200 << 24, 0, 0, 0, 0);
    e.due("a byte above 127", x.check(1), -1);
  }

  private static void fullTape(Edges e) {
    e.says("Promise 5:", "NONE if that would be more than 260.");
    CourtHand x = new CourtHand();
    String law = "x(" + "1=1&".repeat(58) + "11=11)";
    Checks.type(x, law);
    e.due("240", x.count(5), 240);
    e.due("260", x.feed(1, 2, 3, 4, 5), 260);
    e.due("280", x.feed(0x3F3F3F3F, 0x3F3F3F3F, 0x3F3F3F3F, 0x3F3F3F3F, 0x3F3F3F3F), -1);
    e.due("once more", x.feed(0, 0, 0, 0, 0), -1);
    e.due("260 stay", x.count(5), 260);
    e.due("and as they were", x.law(240), 1);
    e.due("empty", x.count(5), 0);
    e.due("twenty again", x.feed(0, 0, 0, 0, 0), 20);
  }

  private static void law(Edges e) {
    e.says("Promise 6:", "THE LAW by the first n bytes of the tape (1 to 240; empty then), in place of the one before: how many RULES");
    CourtHand x = typed("p1(1=1);w2(1=1)");
    e.due("seven bytes", x.law(7), 1);
    e.due("empty then", x.count(5), 0);
    e.due("in place of four", x.count(4), 1);
    CourtHand y = typed("p1(1=1);w2(1=1)");
    e.due("fifteen bytes", y.law(15), 2);
    CourtHand z = typed("p");
    e.due("one byte", z.law(1), -1001);
    e.due("empty with a fault, too", z.count(5), 0);
    e.due("the one before stays", z.count(4), 4);
    CourtHand full = typed("x(" + "1=1&".repeat(58) + "11=11)");
    e.due("240 bytes", full.law(240), 1);
  }

  private static void lawNone(Edges e) {
    e.says("Promise 6:", "NONE: no such n, it has not so many (the tape stays).");
    for (int n : new int[] {0, -1, 41, 240, 241, 260, Integer.MIN_VALUE, Integer.MAX_VALUE}) {
      e.none("law " + n + " of 40", x -> x.law(n));
    }
    CourtHand x = new CourtHand();
    for (int i = 0; i < 13; i++) {
      x.feed(0, 0, 0, 0, 0);
    }
    e.due("241 of 260", x.law(241), -1);
    e.due("260 of 260", x.law(260), -1);
    e.due("the tape stays", x.count(5), 260);
    e.due("240 of 260", x.law(240), -1000);
    e.due("1 of none", x.law(1), -1);
  }

  private static void order(Edges e) {
    e.says("Promise 7:", "THE ORDER by the first n bytes of the tape (1 to 60; empty then), in place of the one before: how many LETTERS");
    CourtHand x = Scene.court();
    e.due("one byte", x.order(1), 1);
    e.due("A", x.count(100), 0);
    e.due("in place of seven", x.count(3), 1);
    e.due("empty then", x.count(5), 0);
    CourtHand y = Scene.court();
    e.due("40 bytes", y.order(40), 40);
    CourtHand z = typed("A".repeat(60));
    e.due("60 bytes", z.order(60), 60);
    CourtHand faulty = typed("AI");
    e.due("a fault", faulty.order(2), -1001);
    e.due("empty with a fault, too", faulty.count(5), 0);
    e.due("the one before stays", faulty.count(3), 7);
  }

  private static void orderNone(Edges e) {
    e.says("Promise 7:", "a FAULT; NONE: as above.");
    for (int n : new int[] {0, -1, 41, 60, 61, Integer.MIN_VALUE, Integer.MAX_VALUE}) {
      e.none("order " + n + " of 40", x -> x.order(n));
    }
    CourtHand x = typed("A".repeat(80));
    e.due("61 of 80", x.order(61), -1);
    e.due("80 of 80", x.order(80), -1);
    e.due("the tape stays", x.count(5), 80);
    e.due("the order stays", x.count(3), 7);
    e.due("60 of 80", x.order(60), 60);
    e.due("1 of none", x.order(1), -1);
  }

  private static void blots(Edges e) {
    e.says("Promise 8:", "BLOTS by the first n bytes of the tape (1 to 120; empty then): how many LINES; a FAULT");
    CourtHand x = typed("0A!;4B!;9C!");
    e.due("three bytes", x.blots(3), 1);
    e.due("empty then", x.count(5), 0);
    e.due("A of 0", x.formOf(0, 0), 0);
    e.due("not B of 4", x.formOf(4, 1) != 0, true);
    CourtHand y = typed("0A!;4B!;9C!");
    e.due("eleven bytes", y.blots(11), 3);
    e.due("C of 9", y.formOf(9, 2), 0);
    CourtHand z = typed("0A!;4B!");
    e.due("one byte", z.blots(1), -1001);
    e.due("empty with a fault, too", z.count(5), 0);
    CourtHand full = typed("0A" + "a".repeat(118));
    e.due("120 bytes", full.blots(120), 1);
  }

  private static void blotsNone(Edges e) {
    e.says("Promise 8:", "a FAULT; NONE: as above.");
    for (int n : new int[] {0, -1, 41, 120, 121, Integer.MIN_VALUE, Integer.MAX_VALUE}) {
      e.none("blots " + n + " of 40", x -> x.blots(n));
    }
    CourtHand x = typed("0A" + "a".repeat(138));
    int form = x.formOf(0, 0);
    e.due("121 of 140", x.blots(121), -1);
    e.due("the tape stays", x.count(5), 140);
    e.due("the form stays", x.formOf(0, 0), form);
    e.due("119 of 140", x.blots(119), 1);
    e.due("the form is another", x.formOf(0, 0), form ^ 1);
    e.due("1 of none", x.blots(1), -1);
  }

  private static int copied(CourtHand x, int what, int... who) {
    return x.copied(Checks.type(x, Scene.bytes(who)), what);
  }

  private static CourtHand twoHands() {
    CourtHand x = Scene.letters();
    x.courtier(0, 0, 0);
    x.courtier(9, 0, 0);
    x.form(0, 0, Scene.POST);
    x.form(9, 1, Scene.RING);
    Scene.order(x, "ABC");
    return x;
  }

  private static void copied(Edges e) {
    e.says("Promise 17:", "COPIED by the first n bytes of the tape (COURTIERS; n 1 to 12; empty then)");
    CourtHand x = twoHands();
    e.due("one", copied(x, 0, 0), 1);
    e.due("empty then", x.count(5), 0);
    e.due("two", copied(x, 0, 0, 9), 2);
    e.due("the other way round", copied(x, 0, 9, 0), 1);
    e.due("twelve", copied(x, 0, 0, 0, 0, 0, 0, 0, 0, 0, 0, 0, 0, 9), 2);
    e.due("twelve: left", copied(x, 100, 9, 9, 9, 9, 9, 9, 9, 9, 9, 9, 9, 9), 3);
    Checks.type(x, Scene.bytes(0, 9));
    e.due("the first byte alone", x.copied(1, 0), 1);
    e.due("empty of all", x.count(5), 0);
    CourtHand y = Scene.court();
    y.check(0);
    copied(y, 100, 0, 4, 9);
    CourtHand z = Scene.court();
    z.check(0);
    e.same("copying", y, z);
  }

  private static void copiedNotTold(Edges e) {
    e.says("Promise 17:", "-2: one is not told");
    for (int c : new int[] {1, 8, 10, 127, 128, 255}) {
      e.empties(Scene.bytes(c), x -> x.copied(1, 100), -2);
      e.empties(Scene.bytes(0, 4, c), x -> x.copied(3, 0), -2);
      e.empties(Scene.bytes(c), x -> x.copied(1, 59), -2);
    }
    CourtHand x = twoHands();
    Checks.type(x, Scene.bytes(0, 8));
    e.due("8 is behind the first", x.copied(1, 100), 3);
  }

  private static void copiedPlaces(Edges e) {
    e.says("Promise 17:", "else the LETTER at place what (0 to 59)");
    CourtHand x = twoHands();
    e.due("place 0", copied(x, 0, 9), 0);
    e.due("place 2", copied(x, 2, 9), 2);
    Scene.order(x, "(A9)6B6");
    e.due("place 53 of 60", copied(x, 53, 9), 0);
    e.due("place 59 of 60", copied(x, 59, 0), 1);
    e.due("place 60 is none", copied(x, 60, 0), -1);
    x.check(0);
    e.due("what 100", copied(x, 100, 0), 60);
    e.due("what 101", copied(x, 101, 0), 6);
  }

  private static void copiedNoPlace(Edges e) {
    e.says("Promise 17:", "-4: no such place");
    CourtHand x = twoHands();
    e.due("place 3 of three", copied(x, 3, 9), -4);
    e.due("empty then", x.count(5), 0);
    e.due("place 59 of three", copied(x, 59, 9), -4);
    Scene.order(x, "(A9)6B5");
    e.due("place 58 of 59", copied(x, 58, 0), 1);
    e.due("place 59 of 59", copied(x, 59, 0), -4);
    x.form(0, 1, 0);
    e.due("place 54: B is left out", copied(x, 54, 0, 9), -4);
    e.empties(Scene.bytes(0), y -> y.copied(1, 59), -4);
  }

  private static void copiedNone(Edges e) {
    e.says("Promise 17:", "NONE: no such ones, it has not so many (the tape stays).");
    for (int n : new int[] {0, -1, 13, 40, 41, Integer.MIN_VALUE, Integer.MAX_VALUE}) {
      e.none("copied " + n + " of 40", x -> x.copied(n, 100));
      e.none("copied " + n + " of 40, a place", x -> x.copied(n, 0));
    }
    for (int what : new int[] {-1, 60, 99, 102, Integer.MIN_VALUE, Integer.MAX_VALUE}) {
      e.none("copied what " + what, x -> x.copied(1, what));
    }
    CourtHand x = twoHands();
    e.due("1 of none", x.copied(1, 100), -1);
  }

  private static int whose(CourtHand x, int letters, int what, int... grids) {
    int[] words = new int[10];
    System.arraycopy(grids, 0, words, 0, grids.length);
    x.feed(words[0], words[1], words[2], words[3], words[4]);
    if (grids.length > 5) {
      x.feed(words[5], words[6], words[7], words[8], words[9]);
    }
    return x.whose(letters, what);
  }

  private static void whose(Edges e) {
    e.says("Promise 19:", "what 0 who, 1 how far, 2 how much more the next one is (one told: -2)");
    CourtHand x = Scene.letters();
    x.courtier(9, 0, 0);
    e.due("who", whose(x, 4, 0, 0), 9);
    e.due("empty then", x.count(5), 0);
    e.due("how far", whose(x, 4, 1, 0), 8);
    e.due("one told", whose(x, 4, 2, 0), -2);
    x.courtier(0, 0, 0);
    x.form(0, 2, 1);
    e.due("two told: who", whose(x, 4, 0, 0), 0);
    e.due("two told: how far", whose(x, 4, 1, 0), 1);
    e.due("two told: how much more", whose(x, 4, 2, 0), 7);
    e.due("only the letters told by bits", whose(x, 3, 2, 0, 0), 0);
    CourtHand y = Scene.court();
    y.check(0);
    whose(y, 7, 0, 1, 2, 3);
    CourtHand z = Scene.court();
    z.check(0);
    e.same("asking whose", y, z);
  }

  private static void whoseEight(Edges e) {
    e.says("Promise 19:", "n how many LETTERS are told by bits, 1 to 8; empty then");
    CourtHand x = new CourtHand();
    x.courtier(0, 0, 0);
    for (int k = 0; k < 8; k++) {
      x.model(k, k);
    }
    int[] sheet = {0, 1, 2, 3, 4, 5, 6, 7};
    e.due("all eight, by numbers", whose(x, 255, 1, sheet), 0);
    e.due("empty of forty", x.count(5), 0);
    sheet[7] = 0;
    e.due("the last is 3 off", whose(x, 255, 1, sheet), 3);
    e.due("the first alone", whose(x, 1, 1, 3), 2);
    e.due("the last alone", whose(x, 128, 1, 0), 3);
    e.due("the first and the last", whose(x, 129, 1, 0, 7), 0);
    e.due("five need all twenty bytes", whose(x, 31, 1, 0, 1, 2, 3, 0), 1);
    x.feed(0, 0, 0, 0, 0);
    e.due("six need more", x.whose(63, 1), -1);
    e.due("the tape stays", x.count(5), 20);
  }

  private static void whoseGrids(Edges e) {
    e.says("Promise 19:", "-3: no such GRID (behind -2)");
    CourtHand x = Scene.court();
    x.check(0);
    e.due("the largest grid", whose(x, 1, 0, Scene.ALL) >= 0, true);
    e.due("one more", whose(x, 1, 0, Scene.ALL + 1), -3);
    e.due("empty then", x.count(5), 0);
    e.due("-1", whose(x, 1, 0, -1), -3);
    e.due("the least number", whose(x, 1, 2, Integer.MIN_VALUE), -3);
    e.due("the second one", whose(x, 3, 1, 0, Scene.ALL + 1), -3);
    e.due("the third one", whose(x, 7, 1, 0, 0, -1), -3);
    e.due("behind the last letter's", whose(x, 3, 0, 0, 0, -1) >= 0, true);
    CourtHand y = Scene.court();
    y.check(0);
    e.same("no such grid", x, y);
    CourtHand nobody = Scene.letters();
    e.due("nobody ahead of no such grid", whose(nobody, 1, 0, -1), -2);
  }

  private static void whoseNobody(Edges e) {
    e.says("Promise 19:", "-2: nobody is told");
    CourtHand x = Scene.letters();
    for (int what = 0; what <= 2; what++) {
      e.due("what " + what, whose(x, 1, what, 0), -2);
      e.due("empty then", x.count(5), 0);
    }
    e.due("what 3", whose(x, 1, 3, 0), -1);
    e.due("the tape stays", x.count(5), 20);
  }

  private static void whoseNone(Edges e) {
    e.says("Promise 19:", "NONE: no such ones, it has not so many (the tape stays).");
    for (int letters : new int[] {0, 8, 9, 128, 255, 256, 257, -1, -8, 1 << 31, 1 << 31 | 1, Integer.MAX_VALUE}) {
      e.none("letters " + letters, x -> x.whose(letters, 0));
    }
    for (int what : new int[] {-1, 3, 100, Integer.MIN_VALUE, Integer.MAX_VALUE}) {
      e.none("what " + what, x -> x.whose(1, what));
    }
    CourtHand x = Scene.court();
    x.check(0);
    e.due("none on the tape", x.whose(1, 0), -1);
  }

  private static void check(Edges e) {
    e.says("Promise 31:", "CHECK by the first n bytes of the tape (0 to 10; empty then");
    CourtHand x = new CourtHand();
    x.model(0, 0);
    for (int c = 0; c < 10; c++) {
      x.courtier(c, 0, 0);
      x.form(c, 0, 1);
    }
    for (int n = 0; n <= 10; n++) {
      Checks.type(x, Scene.bytes(1).repeat(n) + Scene.bytes(0));
      e.due(n + " are right", x.check(n), -1);
      e.due("empty then", x.count(5), 0);
    }
    for (int n = 1; n <= 10; n++) {
      Checks.type(x, Scene.bytes(1).repeat(n - 1) + Scene.bytes(0));
      e.due("the last of " + n + " is not", x.check(n), n - 1);
      e.due("empty then, too", x.count(5), 0);
    }
    e.due("none of an empty tape", x.check(0), -1);
  }

  private static void checkNotTold(Edges e) {
    e.says("Promise 31:", "of COURTIERS that are not told 0): NONE: right; else the first that is not so");
    CourtHand x = new CourtHand();
    x.model(0, 0);
    x.courtier(9, 0, 0);
    x.form(9, 0, 7);
    e.due("nine not told", x.check(Checks.type(x, Scene.bytes(0, 0, 0, 0, 0, 0, 0, 0, 0, 3))), -1);
    e.due("9 is not so", x.check(Checks.type(x, Scene.bytes(0, 0, 0, 0, 0, 0, 0, 0, 0, 2))), 9);
    e.due("8 is not told", x.check(Checks.type(x, Scene.bytes(0, 0, 0, 0, 0, 0, 0, 0, 1, 2))), 8);
    e.due("0 is not told", x.check(Checks.type(x, Scene.bytes(255, 0, 0, 0, 0, 0, 0, 0, 1, 2))), 0);
    e.empties(Scene.bytes(255), y -> y.check(1), 0);
  }

  private static void checkNone(Edges e) {
    e.says("Promise 31:", "-2: no such n, it has not so many (the tape stays).");
    for (int n : new int[] {-1, 11, 40, 41, Integer.MIN_VALUE, Integer.MAX_VALUE}) {
      e.leaves("check " + n + " of 40", x -> x.check(n), -2);
    }
    CourtHand x = new CourtHand();
    e.due("1 of none", x.check(1), -2);
    e.due("10 of none", x.check(10), -2);
    e.due("0 of none", x.check(0), -1);
    x.feed(0, 0, 0, 0, 0);
    e.due("11 of 20", x.check(11), -2);
    e.due("the tape stays", x.count(5), 20);
    e.due("10 of 20", x.check(10), -1);
  }
}
