/** The edges of a law's text: what can stand where, how long, how many, how deep. */
final class LawTextEdges {
  private static final String TERMS = "Terms";
  private static final String DIGITS = "0123456789";
  private static final String NAMES = "calgskfdm";

  private LawTextEdges() {
  }

  static void all(Edges e) {
    bytes(e);
    blanks(e);
    noneAtFirst(e);
    sixteenRules(e);
    betweenRules(e);
    kinds(e);
    ofXOnlyC(e);
    betweenParts(e);
    tests(e);
    compares(e);
    sums(e);
    factors(e);
    brackets(e);
    numbers(e);
    firstFromTheLeft(e);
    theEnd(e);
    sixthDigit(e);
    seventeenthRule(e);
    seventhOpen(e);
    roundOfTheRule(e);
    notOpenLonger(e);
    aheadOfTheRound(e);
    behindFaults(e);
    faultsLeave(e);
  }

  private static int law(String text) {
    return Scene.law(new CourtHand(), text);
  }

  private static void rows(Edges e, Object[][] rows) {
    for (Object[] row : rows) {
      e.due("law " + row[0], law((String) row[0]), (Integer) row[1]);
    }
  }

  /** Every byte between those texts: one of the good is a rule, one of the others a fault there, unless a row says else. */
  private static void everyByte(Edges e, String before, String behind, String good, Object[][] rows) {
    for (int sign = 0; sign < 256; sign++) {
      int due = good.indexOf(sign) >= 0 ? 1 : -1000 - before.length();
      for (Object[] row : rows) {
        due = ((String) row[0]).indexOf(sign) >= 0 ? (Integer) row[1] : due;
      }
      e.due("law " + before + "(byte " + sign + ")" + behind, law(before + Scene.bytes(sign) + behind), due);
    }
  }

  private static void bytes(Edges e) {
    e.says(TERMS, "THE LAW: a TEXT of at most 240 bytes");
    String text = "x(" + "1=1&".repeat(58) + "11=11)";
    CourtHand x = new CourtHand();
    e.due("its length", text.length(), 240);
    Checks.type(x, text + "(");
    e.due("241 bytes", x.law(241), -1);
    e.due("the tape stays", x.count(5), 260);
    e.due("no law yet", x.count(4), 0);
    e.due("240 bytes", x.law(240), 1);
    e.due("a law of 240 bytes", x.count(4), 1);
    Checks.type(x, text);
    e.due("239 bytes", x.law(239), -1239);
    rows(e, new Object[][] {{"p1([" + "1+".repeat(115) + "1]=0)", 1}, {"p" + "1*".repeat(116) + "1(1=1)", 1},
      {"x(" + "1=1|".repeat(58) + "1=1)", 1}});
  }

  private static void blanks(Edges e) {
    e.says(TERMS, "THE LAW: a TEXT of at most 240 bytes, no blanks");
    rows(e, new Object[][] {{" x(1=1)", -1000}, {"x (1=1)", -1001}, {"x( 1=1)", -1002}, {"x(1 =1)", -1003}, {"x(1= 1)", -1004},
      {"x(1=1 )", -1005}, {"x(1=1) ", -1006}, {"x(1=1); x(1=1)", -1007}, {"p 1(1=1)", -1001}, {"p1 (1=1)", -1002},
      {"p1 1(1=1)", -1002}, {"x(1=1)\n", -1006}, {"x(1=1)\0", -1006}});
  }

  private static void noneAtFirst(Edges e) {
    e.says(TERMS, "no blanks (none at first): RULES");
    CourtHand x = Scene.scribe(Scene.BAR ^ 1);
    e.due("no rules", x.count(4), 0);
    e.due("nothing is mended", x.tried(60, 0), 0);
    e.due("nothing is spoiled", x.tried(60, 1), 0);
    e.due("no ink comes, all practise", x.tried(1, 30), 5000 - 4);
  }

  private static void sixteenRules(Edges e) {
    e.says(TERMS, "RULES (16 at most) with a ; (59) between two");
    for (int rules = 1; rules <= 16; rules++) {
      CourtHand x = new CourtHand();
      x.courtier(0, 0, 0);
      String text = "i9(1=2);".repeat(rules - 1) + "i7(1=1)";
      e.due(rules + " rules", Scene.law(x, text), rules);
      e.due(rules + " rules stand", x.count(4), rules);
      e.due("the last of them", x.tried(1, 30), 7);
    }
    e.due("17 rules", law("x(1=1);".repeat(16) + "x(1=1)"), -4112);
  }

  private static void betweenRules(Edges e) {
    e.says(TERMS, "RULES (16 at most) with a ; (59) between two");
    everyByte(e, "x(1=1)", "x(1=1)", "", new Object[][] {{";", 2}});
    rows(e, new Object[][] {{";x(1=1)", -1000}, {"x(1=1);;x(1=1)", -1007}, {"x(1=1);", -1007}, {";", -1000}});
  }

  private static void kinds(Edges e) {
    e.says(TERMS, "a letter, E, and (C)");
    everyByte(e, "", "1(1=1)", "pwi", new Object[][] {{"x", -1001}});
    rows(e, new Object[][] {{"p(1=1)", -1001}, {"w(1=1)", -1001}, {"i(1=1)", -1001}, {"p1()", -1003}, {"p1", -1002}});
  }

  private static void ofXOnlyC(Edges e) {
    e.says(TERMS, "a letter, E, and (C), of x only (C)");
    everyByte(e, "", "(1=1)", "x", new Object[][] {{"pwi", -1001}});
    everyByte(e, "x", "1=1)", "(", new Object[][] {});
  }

  private static void betweenParts(Edges e) {
    e.says(TERMS, "PARTS with a | between two, one of which must hold; a PART: TESTS with an & between two");
    everyByte(e, "x(1=1", "1=1)", "", new Object[][] {{"|&", 1}, {DIGITS, -1007}, {"+-*/%", -1007}, {")", -1006}});
    rows(e, new Object[][] {{"x(1=1||1=1)", -1006}, {"x(1=1&&1=1)", -1006}, {"x(|1=1)", -1002}, {"x(&1=1)", -1002},
      {"x(1=1|)", -1006}, {"x(1=1&)", -1006}, {"x(1=1&1=1|1=1&1=1)", 1}});
  }

  private static void tests(Edges e) {
    e.says(TERMS, "a TEST: !TEST, (C), or E, one of < > =, and E");
    everyByte(e, "x(", "=1)", DIGITS + NAMES, new Object[][] {{"[(!", -1003}});
    rows(e, new Object[][] {{"x(!1=1)", 1}, {"x((1=1))", 1}, {"x(!(1=1|1=2))", 1}, {"x(!!1=1)", 1}, {"x()", -1002}, {"x(!)", -1003},
      {"x(())", -1003}, {"x((1=1)=1)", -1007}, {"x((1)=1)", -1004}, {"x(1)", -1003}, {"x(1=1=1)", -1005}, {"x(1=!1)", -1004},
      {"x(1=(1))", -1004}});
  }

  private static void compares(Edges e) {
    e.says(TERMS, "one of < > =, and E");
    everyByte(e, "x(1", "1)", "<>=", new Object[][] {{DIGITS, -1005}, {"+-*/%", -1005}});
    rows(e, new Object[][] {{"x(1<=1)", -1004}, {"x(1>=1)", -1004}, {"x(1<>1)", -1004}, {"x(1==1)", -1004}, {"x(1=)", -1004}});
  }

  private static void sums(Edges e) {
    e.says(TERMS, "E: TERMS with + or - between two; a TERM: FACTORS with one of * / % between two");
    everyByte(e, "p1", "c(1=1)", "+-*/%", new Object[][] {{DIGITS, -1003}, {"(", -1004}});
    rows(e, new Object[][] {{"p-1(1=1)", -1001}, {"p+1(1=1)", -1001}, {"p1-(1=1)", -1003}, {"p1--1(1=1)", -1003}, {"p1*/1(1=1)", -1003},
      {"pca(1=1)", -1002}, {"p1[1](1=1)", -1002}, {"p[1][1](1=1)", -1004}});
  }

  private static void factors(Edges e) {
    e.says(TERMS, "a FACTOR: [E], a number of one to five digits, or a letter");
    everyByte(e, "p", "(1=1)", DIGITS + NAMES, new Object[][] {{"[", -1002}});
    everyByte(e, "x(1=", ")", DIGITS + NAMES, new Object[][] {{"[", -1005}});
  }

  private static void brackets(Edges e) {
    e.says(TERMS, "a FACTOR: [E]");
    everyByte(e, "p[1", "(1=1)", "]", new Object[][] {{DIGITS, -1004}, {"+-*/%", -1004}});
    rows(e, new Object[][] {{"p[](1=1)", -1002}, {"p[1=1](1=1)", -1003}, {"p]1[(1=1)", -1001}, {"p[1)(1=1)", -1003}, {"x([1]=[1])", 1},
      {"x([1=1])", -1004}, {"p[!1](1=1)", -1002}});
  }

  private static void numbers(Edges e) {
    e.says(TERMS, "a number of one to five digits");
    rows(e, new Object[][] {{"p0(1=1)", 1}, {"p9(1=1)", 1}, {"p00000(1=1)", 1}, {"p99999(1=1)", 1}, {"p100000(1=1)", -2006},
      {"p000000(1=1)", -2006}, {"x(12345=12345)", 1}, {"x(12345=123456)", -2013}, {"x(123456=1)", -2007}});
    CourtHand x = new CourtHand();
    x.courtier(0, 0, 0);
    Scene.law(x, "i99999-99990(1=1)");
    e.due("five digits", x.tried(1, 30), 9);
    Scene.law(x, "i00012(1=1)");
    e.due("with noughts ahead", x.tried(1, 30), 12);
  }

  private static void firstFromTheLeft(Edges e) {
    e.says(TERMS, "FAULTS, the first from the left: 1 what can't stand there");
    rows(e, new Object[][] {{"q123456", -1000}, {"p123456(((((((", -2006}, {"p?(((((((1", -1001}, {"x(((((((?", -5007}, {"x((((((?", -1007},
      {"x(1=1);".repeat(16) + "q", -1112}, {"x(1=1);".repeat(16) + "p123456", -4112}, {"x(1=1);".repeat(15) + "p123456", -2111}});
  }

  private static void theEnd(Edges e) {
    e.says(TERMS, "FAULTS, the first from the left: 1 what can't stand there (the end, too)");
    String first = "p[1+c]*22-m(!(1=1|l<[5])&a>31)";
    String whole = first + ";x(!k=0);i7%2(1>1)";
    int second = first.length() + ";x(!k=0)".length();
    for (int n = 1; n <= whole.length(); n++) {
      CourtHand x = new CourtHand();
      Checks.type(x, whole);
      int rules = n == first.length() ? 1 : n == second ? 2 : n == whole.length() ? 3 : -1000 - n;
      e.due(n + " bytes of " + whole, x.law(n), rules);
    }
  }

  private static void sixthDigit(Edges e) {
    e.says(TERMS, "2 a sixth digit, at it");
    rows(e, new Object[][] {{"p12345", -1006}, {"p123456", -2006}, {"p1234567", -2006}, {"p1+123456", -2008}, {"p12345+12345(1=1)", 1},
      {"p[123456", -2007}, {"x(1=123456", -2009}});
    for (char digit : DIGITS.toCharArray()) {
      e.due("sixth digit " + digit, law("p10000" + digit + "(1=1)"), -2006);
    }
    e.due("behind 9 no digit", law("p10000:(1=1)"), -1006);
    e.due("ahead of 0 no digit: a sign", law("p10000/(1=1)"), -1007);
  }

  private static void seventeenthRule(Edges e) {
    e.says(TERMS, "4 a 17th RULE, at its letter (if that can stand there)");
    String sixteen = "x(1=1);".repeat(16);
    for (char kind : "pwix".toCharArray()) {
      e.due("a 17th of " + kind, law(sixteen + kind), -4112);
    }
    rows(e, new Object[][] {{sixteen, -1112}, {sixteen + "q", -1112}, {sixteen + "(", -1112}, {sixteen + ";", -1112}, {sixteen + "1", -1112},
      {"x(1=1);".repeat(15) + "x(1=1)", 16}, {"x(1=1);".repeat(15) + "x(1=1)p", -1111}});
  }

  private static void seventhOpen(Edges e) {
    e.says(TERMS, "5 a seventh of ( [ ! that are open in one another, at it");
    rows(e, new Object[][] {{"x((((((1=1))))))", 1}, {"x(((((((1=1)))))))", -5007}, {"x(!!!!!1=1)", 1}, {"x(!!!!!!1=1)", -5007},
      {"x([[[[[1]]]]]=1)", 1}, {"x([[[[[[1]]]]]]=1)", -5007}, {"x(1=[[[[[1]]]]])", 1}, {"x(1=[[[[[[1", -5009}, {"x(!(!([1]=1)))", 1},
      {"x(!(!([[1]]=1)))", -5007}, {"x(!(!((1=1))))", 1}, {"x(!(!(((1=1)))))", -5007}, {"x(!(!(!1=1)))", 1}, {"x(!(!(!!1=1)))", -5007},
      {"x(((((((", -5007}, {"x((((((", -1007}});
  }

  private static void roundOfTheRule(Edges e) {
    e.says(TERMS, "(the ( of the RULE counts");
    rows(e, new Object[][] {{"x(((((([1]=1))))))", -5007}, {"x((((([1]=1)))))", 1}, {"x((((((1=1))))))", 1}, {"x((((((!1=1))))))", -5007},
      {"x(((((!1=1)))))", 1}, {"x(1=1);x((((((1=1))))))", 2}, {"x(1=1);x(((((((1=1)))))))", -5014}});
  }

  private static void notOpenLonger(Edges e) {
    e.says(TERMS, "a ! is open till its TEST ends");
    rows(e, new Object[][] {{"x(!!!!!1=1&!!!!!1=1)", 1}, {"x(!!!!!1=1|(((((1=1))))))", 1}, {"x(!!!!!1=1&!!!!!!1=1)", -5016},
      {"x(!!!!!1=[1])", -5009}, {"x(!!!!1=[1])", 1}, {"x(!!!!!1+[1]=1)", -5009}, {"x(!!!!(1=1)&[[[[[1]]]]]=1)", 1},
      {"x(!!!!(1=1&[1]=1))", -5011}, {"x(!!!(1=1&[1]=1))", 1}, {"x(!(!1=1&!(!1=1&[1]=1)))", 1}, {"x(!(!1=1&!(!1=1&[[1]]=1)))", -5017}});
  }

  private static void aheadOfTheRound(Edges e) {
    e.says(TERMS, "the E of a RULE stands ahead of it)");
    rows(e, new Object[][] {{"p[[[[[[1]]]]]](1=1)", 1}, {"p[[[[[[[1]]]]]]](1=1)", -5007}, {"p[[[[[[1]]]]]]((((((1=1))))))", 1},
      {"p[[[[[[1]]]]]](((((((1=1)))))))", -5020}, {"p[[[[[[1]]]]]]+[[[[[[1]]]]]](1=1)", 1}, {"p[[[[[[1]]]]]]+[[[[[[[1", -5021}});
  }

  private static void behindFaults(Edges e) {
    e.says("Promise 6:", "in place of the one before: how many RULES");
    CourtHand x = new CourtHand();
    e.due("a fault", Scene.law(x, "x(((((1=1;"), -1009);
    e.due("none is left then", Scene.law(x, "x((((((1=1))))))"), 1);
    e.due("a 17th rule", Scene.law(x, "x(1=1);".repeat(16) + "x"), -4112);
    e.due("16 may be again", Scene.law(x, "x(1=1);".repeat(15) + "x(1=1)"), 16);
    e.due("and one", Scene.law(x, "x(1=1)"), 1);
  }

  private static void faultsLeave(Edges e) {
    e.says("Promise 6:", "a FAULT: -1000 times its number, less its place (the one before stays)");
    String[] texts = {"p9(1=1);i9(1=1)x", "w123456(1=1)", "x(1=1);".repeat(16) + "p", "p1(1=1);x(((((((1=1)))))))", "?", "p1(1=1);"};
    int[] due = {-1015, -2006, -4112, -5015, -1000, -1008};
    for (int i = 0; i < texts.length; i++) {
      int n = texts[i].length();
      e.empties(texts[i], x -> x.law(n), due[i]);
    }
  }
}
