/** The edges of an order's text. */
final class OrderEdges {
  private static final String TERMS = "Terms";

  private OrderEdges() {
  }

  static void all(Edges e) {
    bytes(e);
    blanks(e);
    capitals(e);
    digitsOfLetters(e);
    digitsOfRounds(e);
    sixtyLetters(e);
    cantStand(e);
    theEnd(e);
    openInAnother(e);
    moreThanSixty(e);
    askedWhenItEnds(e);
    innerOnesFirst(e);
    noneAtFirst(e);
    behindFaults(e);
    faultsLeave(e);
  }

  private static int order(String text) {
    return Scene.order(new CourtHand(), text);
  }

  private static void rows(Edges e, Object[][] rows) {
    for (Object[] row : rows) {
      e.due("order " + row[0], order((String) row[0]), (Integer) row[1]);
    }
  }

  private static void bytes(Edges e) {
    e.says(TERMS, "AN ORDER: a TEXT of at most 60 bytes");
    CourtHand x = new CourtHand();
    Checks.type(x, "H".repeat(61));
    e.due("61 bytes", x.order(61), -1);
    e.due("the tape stays", x.count(5), 80);
    e.due("no order yet", x.count(3), 0);
    e.due("60 bytes", x.order(60), 60);
    e.due("the last letter", x.count(159), 7);
    e.due("one byte", order("H"), 1);
  }

  private static void blanks(Edges e) {
    e.says(TERMS, "AN ORDER: a TEXT of at most 60 bytes, no blanks");
    rows(e, new Object[][] {{" ", -1000}, {" A", -1000}, {"A ", -1001}, {"A B", -1001}, {"A 2", -1001}, {"A2 ", -1002},
      {"( A)", -1001}, {"(A )", -1002}, {"(A) 2", -1003}, {"A\tB", -1001}, {"A\nB", -1001}, {"A\0", -1001}});
  }

  private static void capitals(Edges e) {
    e.says(TERMS, "a capital A to H, perhaps a digit 2 to 9 behind it");
    for (int sign = 0; sign < 256; sign++) {
      boolean isLetter = sign >= 'A' && sign <= 'H';
      CourtHand x = new CourtHand();
      int due = isLetter ? 1 : sign == '(' ? -1001 : -1000;
      e.due("byte " + sign, Scene.order(x, Scene.bytes(sign)), due);
      e.due("letter of byte " + sign, x.count(100), isLetter ? sign - 'A' : -1);
    }
  }

  private static void digitsOfLetters(Edges e) {
    e.says(TERMS, "a capital A to H, perhaps a digit 2 to 9 behind it (so many times)");
    for (int sign = 0; sign < 256; sign++) {
      int due = sign >= '2' && sign <= '9' ? sign - '0' : sign >= 'A' && sign <= 'H' ? 2 : sign == '(' ? -1002 : -1001;
      e.due("A and byte " + sign, order(Scene.bytes('A', sign)), due);
    }
    CourtHand x = new CourtHand();
    e.due("C9D", Scene.order(x, "C9D"), 10);
    for (int i = 0; i < 9; i++) {
      e.due("C at place " + i, x.count(100 + i), 2);
    }
    e.due("D behind", x.count(109), 3);
    e.due("one digit alone", order("A22"), -1002);
  }

  private static void digitsOfRounds(Edges e) {
    e.says(TERMS, "or (ORDER), perhaps a digit 2 to 9 behind it (so many times)");
    for (int sign = 0; sign < 256; sign++) {
      int many = sign >= '2' && sign <= '9' ? 2 * (sign - '0') : sign >= 'A' && sign <= 'H' ? 3 : 0;
      e.due("(AB) and byte " + sign, order(Scene.bytes('(', 'A', 'B', ')', sign)),
          many > 0 ? many : sign == '(' ? -1005 : -1004);
    }
    CourtHand x = new CourtHand();
    e.due("(AB)2(C)", Scene.order(x, "(AB)2(C)"), 5);
    int[] letters = {0, 1, 0, 1, 2};
    for (int i = 0; i < letters.length; i++) {
      e.due("letter " + i, x.count(100 + i), letters[i]);
    }
    e.due("one digit alone", order("(A)22"), -1004);
  }

  private static void sixtyLetters(Edges e) {
    e.says(TERMS, "60 LETTERS at most");
    rows(e, new Object[][] {{"(A9)6A6", 60}, {"(A9)6A7", -6005}, {"A6(A9)6", 60}, {"A7(A9)6", -6002},
      {"((A5)2)6", 60}, {"((A5)2)7", -6000}, {"(A6B)8A4", 60}, {"(A6B)8A5", -6006}, {"(A9)6ABCDEF", 60},
      {"(A9)6ABCDEFG", -6011}, {"A9A9A9A9A9A9A6", 60}, {"A9A9A9A9A9A9A7", -6012}});
    CourtHand x = new CourtHand();
    Scene.order(x, "(A9)6B5C");
    e.due("the last of 60", x.count(159), 2);
    e.due("the one ahead of it", x.count(158), 1);
    e.due("none behind it", x.count(160), -1);
  }

  private static void cantStand(Edges e) {
    e.says(TERMS, "FAULTS of it: 1 what can't stand there");
    rows(e, new Object[][] {{"2", -1000}, {")", -1000}, {"A)", -1001}, {"()", -1001}, {"(2)", -1001}, {"(())", -1002},
      {"(A))", -1003}, {"A0", -1001}, {"A1", -1001}, {"(A)0", -1003}, {"(A)1", -1003}, {"ABCDEFGHI", -1008},
      {"((A)2)3)", -1007}, {"(A;B)", -1002}});
  }

  private static void theEnd(Edges e) {
    e.says(TERMS, "FAULTS of it: 1 what can't stand there (the end, too)");
    String whole = "((A2B)3C)2";
    int[] due = {-1001, -1002, -1003, -1004, -1005, -1006, -1007, -1008, 10, 20};
    for (int n = 1; n <= whole.length(); n++) {
      CourtHand x = new CourtHand();
      Checks.type(x, whole);
      e.due(n + " bytes of " + whole, x.order(n), due[n - 1]);
    }
  }

  private static void openInAnother(Edges e) {
    e.says(TERMS, "5 a third ( that is open in another one, at it");
    rows(e, new Object[][] {{"((A))", 1}, {"(((A)))", -5002}, {"(((", -5002}, {"((A)(B))", 2}, {"((A)(B(C)))", -5006},
      {"(A)(B)(C)", 3}, {"(A)((B)(C))2", 5}, {"A(B(C(D)))", -5005}, {"((A)2)2((B)2)2", 8}, {"((A)2)2(((B)))", -5009}});
  }

  private static void moreThanSixty(Edges e) {
    e.says(TERMS, "6 more than 60, at the first byte of what by which they are");
    rows(e, new Object[][] {{"(A9)6A6B", -6007}, {"(A9)6A6B2", -6007}, {"(A9)6A6(B)", -6008}, {"(A9)7", -6000},
      {"A(A9)7", -6001}, {"A9(B9)6", -6002}, {"(A9)6(B7)", -6006}, {"(A9)6A5(BC)", -6009}, {"(A9)6A5(B)2", -6007}});
  }

  private static void askedWhenItEnds(Edges e) {
    e.says(TERMS, "(asked when it ends, behind the digit");
    rows(e, new Object[][] {{"(A9)6A6(", -1008}, {"(A9)6A6()", -1008}, {"(A9)6A6I", -1007}, {"(A9)6A6)", -1007},
      {"(A9)6A61", -1007}, {"(A9)6A7I", -6005}, {"(A9)6A71", -6005}, {"(A9)6A6A1", -6007}, {"(A9)6A6A)", -6007},
      {"(A9)6(A6I", -1008}, {"(A9)6(A6", -1008}, {"(A9)6(A6)2", -6005}, {"(A9)6(A6)1", -1009}, {"(A9)7(", -6000},
      {"(A9)6(A6)(", -1010}, {"(A9)6((((", -5007}});
  }

  private static void innerOnesFirst(Edges e) {
    e.says(TERMS, "behind the digit; of an inner one first)");
    rows(e, new Object[][] {{"((A9)7)2", -6001}, {"((A9)6)2", -6000}, {"((A9)6B9)2", -6006}, {"A((B9)7)2", -6002},
      {"((A8)7)2", -6000}, {"((A8)7B4)", 60}, {"((A8)7B5)", -6006}, {"(A9)6((A7)2)", -6007}, {"(A9)6((A6)2)", -6006},
      {"(A9)6((A6)2", -6006}, {"(A9)6((A3)2)2", -6005}, {"(A9A9A9A9A9A9A9)", -6013}});
  }

  private static void noneAtFirst(Edges e) {
    e.says(TERMS, "There is one ORDER (none at first)");
    CourtHand x = Scene.letters();
    x.courtier(0, 0, 99);
    e.due("no letters", x.count(3), 0);
    e.due("no first letter", x.count(100), -1);
    for (int what = 0; what <= 4; what++) {
      e.due("written " + what, x.written(0, what), 0);
    }
    Scene.order(x, "A9");
    e.due("one order", x.count(3), 9);
    Scene.order(x, "B2");
    e.due("another in its place", x.count(3), 2);
    e.due("its first letter", x.count(100), 1);
    e.due("nothing of the one before", x.count(102), -1);
  }

  private static void behindFaults(Edges e) {
    e.says("Promise 7:", "in place of the one before: how many LETTERS");
    CourtHand x = new CourtHand();
    e.due("two are left open", Scene.order(x, "((A"), -1003);
    e.due("none is open then", Scene.order(x, "A)"), -1001);
    e.due("two may be opened again", Scene.order(x, "((A)2)2"), 4);
    e.due("60 letters, then one too many", Scene.order(x, "(A9)6A6B"), -6007);
    e.due("60 letters may be again", Scene.order(x, "(A9)6A6"), 60);
    e.due("and one", Scene.order(x, "A"), 1);
  }

  private static void faultsLeave(Edges e) {
    e.says("Promise 7:", "how many LETTERS; a FAULT");
    String[] texts = {"BBBBI", "BBBB(", "H(((A)))", "(H9)7", "H(G9)6F6"};
    int[] due = {-1004, -1005, -5003, -6000, -6006};
    for (int i = 0; i < texts.length; i++) {
      int n = texts[i].length();
      e.empties(texts[i], x -> x.order(n), due[i]);
    }
  }
}
