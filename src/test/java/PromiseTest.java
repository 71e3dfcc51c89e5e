/** Each promise of the document by itself: ordinary inputs, the edges it names, wrong inputs. */
public final class PromiseTest {
  private static final int BAR = 31;
  private static final int POST = 1082401;
  private static final int RING = 469440;
  private static final int ALL = 33554431;
  private static final Checks T = new Checks();

  public static void main(String[] args) {
    newObject();
    tellings();
    tapes();
    lawTexts();
    lawDepths();
    lawBounds();
    orderTexts();
    blotTexts();
    moonsGoBy();
    moonEdges();
    lawNames();
    lawRefusals();
    triedMoons();
    courtiersAre();
    readings();
    writtenSheets();
    copies();
    anotherLetter();
    whoseSheet();
    forgeAndAlike();
    risesAndCommands();
    clearLetters();
    shapes();
    likes();
    toldApartLetters();
    seedKeepUndo();
    checks();
    counts();
    T.end();
  }

  private static CourtHand three() {
    CourtHand x = new CourtHand();
    x.model(0, BAR);
    x.model(1, POST);
    x.model(2, RING);
    return x;
  }

  private static int law(CourtHand x, String text) {
    return x.law(Checks.type(x, text));
  }

  private static int order(CourtHand x, String text) {
    return x.order(Checks.type(x, text));
  }

  private static int blots(CourtHand x, String text) {
    return x.blots(Checks.type(x, text));
  }

  private static String times(String text, int n) {
    return text.repeat(n);
  }

  // Promise 1
  private static void newObject() {
    CourtHand x = new CourtHand();
    for (int what = 0; what <= 5; what++) {
      T.due("new count " + what, x.count(what), 0);
    }
    T.due("new seed", x.count(6), 1);
    for (int i = 0; i < 10; i++) {
      T.due("new modelOf", x.modelOf(i), -1);
      T.due("new courtierIs", x.courtierIs(i, 0), -1);
    }
    T.due("new undo", x.undo(), false);
    T.due("NONE", CourtHand.NONE, -1);
  }

  // Promises 2, 3, 4, 12, 13
  private static void tellings() {
    CourtHand x = new CourtHand();
    T.due("model -1", x.model(-1, 0), false);
    T.due("model 8", x.model(8, 0), false);
    T.due("model grid -1", x.model(0, -1), false);
    T.due("model grid too large", x.model(0, ALL + 1), false);
    T.due("nothing told", x.count(2), 0);
    T.due("model 0", x.model(0, 0), true);
    T.due("model 7", x.model(7, ALL), true);
    T.due("models", x.count(2), 129);
    T.due("modelOf 0", x.modelOf(0), 0);
    T.due("modelOf 7", x.modelOf(7), ALL);
    T.due("modelOf 8", x.modelOf(8), -1);
    T.due("modelOf -1", x.modelOf(-1), -1);
    T.due("courtier -1", x.courtier(-1, 0, 0), false);
    T.due("courtier 10", x.courtier(10, 0, 0), false);
    T.due("age -1", x.courtier(0, -1, 0), false);
    T.due("age 100", x.courtier(0, 100, 0), false);
    T.due("ink -1", x.courtier(0, 0, -1), false);
    T.due("ink 10000", x.courtier(0, 0, 10000), false);
    T.due("none told", x.count(1), 0);
    T.due("courtier 0", x.courtier(0, 0, 0), true);
    T.due("courtier 9", x.courtier(9, 99, 9999), true);
    T.due("told", x.count(1), 513);
    T.due("form of nobody", x.form(1, 0, 0), false);
    T.due("form 10", x.form(10, 0, 0), false);
    T.due("form -1", x.form(-1, 0, 0), false);
    T.due("form without model", x.form(0, 1, 0), false);
    T.due("form letter 8", x.form(0, 8, 0), false);
    T.due("form letter -1", x.form(0, -1, 0), false);
    T.due("form grid", x.form(0, 0, ALL + 1), false);
    T.due("form grid -1", x.form(0, 0, -1), false);
    T.due("formOf as model", x.formOf(9, 7), ALL);
    T.due("form", x.form(9, 7, 5), true);
    T.due("formOf own", x.formOf(9, 7), 5);
    T.due("formOf another's", x.formOf(0, 7), ALL);
    T.due("formOf nobody", x.formOf(1, 7), -1);
    T.due("formOf no model", x.formOf(9, 1), -1);
    T.due("formOf 10", x.formOf(10, 7), -1);
    T.due("formOf letter 8", x.formOf(9, 8), -1);
    x.form(0, 7, ALL);
    x.model(7, 3);
    T.due("own form stays", x.formOf(9, 7), 5);
    T.due("told as the model was: own", x.formOf(0, 7), ALL);
    x.courtier(9, 1, 2);
    T.due("told anew: as the model", x.formOf(9, 7), 3);
    T.due("told anew: age", x.courtierIs(9, 0), 1);
    T.due("told anew: ink", x.courtierIs(9, 1), 2);
  }

  // Promise 5, and that the tape stays where it is told
  private static void tapes() {
    CourtHand x = new CourtHand();
    for (int i = 1; i <= 13; i++) {
      T.due("feed", x.feed(0x78283E3C, 0, 0, 0, 0), 20 * i);
    }
    T.due("feed 261", x.feed(0, 0, 0, 0, 0), -1);
    T.due("tape stays full", x.count(5), 260);
    T.due("law 0", x.law(0), -1);
    T.due("law -1", x.law(-1), -1);
    T.due("law 241", x.law(241), -1);
    T.due("order 0", x.order(0), -1);
    T.due("order 61", x.order(61), -1);
    T.due("blots 0", x.blots(0), -1);
    T.due("blots 121", x.blots(121), -1);
    T.due("copied 0", x.copied(0, 100), -1);
    T.due("copied 13", x.copied(13, 100), -1);
    T.due("copied what 60", x.copied(1, 60), -1);
    T.due("copied what -1", x.copied(1, -1), -1);
    T.due("copied what 99", x.copied(1, 99), -1);
    T.due("copied what 102", x.copied(1, 102), -1);
    T.due("check 11", x.check(11), -2);
    T.due("check -1", x.check(-1), -2);
    T.due("whose without models", x.whose(1, 0), -1);
    T.due("the tape stayed", x.count(5), 260);
    T.due("law of the whole", x.law(240), -1002);
    T.due("empty then", x.count(5), 0);
    T.due("law of nothing", x.law(1), -1);
    x.feed(0x41424344, 0x45464748, 0x41424344, 0x45464748, 0x41424344);
    T.due("order 21", x.order(21), -1);
    T.due("it stays", x.count(5), 20);
    T.due("order 20: highest bytes first", x.order(20), 20);
    T.due("first letter", x.count(100), 0);
    T.due("eighth letter", x.count(107), 7);
    T.due("last letter", x.count(119), 3);
    T.due("empty", x.count(5), 0);
    x.feed(0, 0, 0, 0, 0xFF000000 | 0x80);
    T.due("check 0 empties", x.check(0), -1);
    T.due("empty again", x.count(5), 0);
  }

  // Promise 6: faults and their places
  private static void lawTexts() {
    CourtHand x = new CourtHand();
    T.due("one rule", law(x, "p1(1=1)"), 1);
    T.due("rules", x.count(4), 1);
    String[] good = {"x(1=1)", "p[1](1=1)", "wc+a-l*g/s%k(k<f&d>m|c=1)", "i99999(!1=1)", "x((1=1))",
      "x(!!!!!1=1)", "x((((((1=1))))))", "p[[[[[[1]]]]]](1=1)", "x([[[[[1]]]]]=1)", "x(!([![1=1])",
      "x(1=1&1=1&1=1|1=1|1=1)", "x(1=1)", "p1-1(1<2)"};
    int[] goodDue = {1, 1, 1, 1, 1, 1, 1, 1, 1, -1005, 1, 1, 1};
    for (int i = 0; i < good.length; i++) {
      T.due("law " + good[i], law(x, good[i]), goodDue[i]);
    }
    law(x, "p1(1=1);w2(1=1);i3(1=1);x(1=1)");
    Object[][] bad = {{"q1(1=1)", -1000}, {"p", -1001}, {"p(1=1)", -1001}, {"x1(1=1)", -1001}, {"x", -1001},
      {"x(", -1002}, {"x()", -1002}, {"x(1", -1003}, {"x(1)", -1003}, {"x(1=", -1004}, {"x(1=)", -1004},
      {"x(1=1", -1005}, {"x(1=1;", -1005}, {"x(1=1)x", -1006}, {"x(1=1);", -1007}, {"x(1=1);;", -1007},
      {"p1", -1002}, {"p1+", -1003}, {"p1+(1=1)", -1003}, {"p-1(1=1)", -1001}, {"p[1(1=1)", -1003},
      {"p[](1=1)", -1002}, {"p1 (1=1)", -1002}, {"x(1==1)", -1004}, {"x(1=1&)", -1006}, {"x(1=1|)", -1006},
      {"x(1=1&|1=1)", -1006}, {"x(!)", -1003}, {"x(1=1=1)", -1005}, {"x(b=1)", -1002}, {"x(A=1)", -1002},
      {"x((1)=1)", -1004}, {"x(1=(1))", -1004}, {"x(1=!1)", -1004}, {"px(1=1)", -1001}, {"P1(1=1)", -1000},
      {"p123456(1=1)", -2006}, {"p99999(1=000000)", -2014}, {"x(1=1)&", -1006}, {"x(1\u00b11)", -1003},
      {";", -1000}, {"p1**2(1=1)", -1003}, {"x([1=1]=1)", -1004}};
    for (Object[] row : bad) {
      T.due("law " + row[0], law(x, (String) row[0]), (Integer) row[1]);
    }
    T.due("the law before stays", x.count(4), 4);
    String[] cut = {"x(1=1)", "p1(1=1)", "x(1=1);x(1=1)"};
    for (String text : cut) {
      for (int n = 1; n < text.length(); n++) {
        Checks.type(x, text);
        boolean whole = n == 6 && text.charAt(0) == 'x';
        T.due(n + " bytes of " + text, x.law(n), whole ? 1 : -1000 - n);
      }
    }
    Checks.type(x, "p123456(1=1)");
    T.due("cut in a number", x.law(6), -1006);
    T.due("16 rules", law(x, times("x(1=1);", 15) + "x(1=1)"), 16);
    T.due("16 rules stand", x.count(4), 16);
    T.due("a 17th", law(x, times("x(1=1);", 16) + "p("), -4112);
    T.due("no 17th", law(x, times("x(1=1);", 16) + "q"), -1112);
    T.due("no 17th but the end", law(x, times("x(1=1);", 16)), -1112);
    T.due("in place of it", law(x, "x(1=1)"), 1);
    T.due("one rule now", x.count(4), 1);
  }

  // Promise 6: how deep
  private static void lawDepths() {
    CourtHand x = new CourtHand();
    T.due("seventh (", law(x, "x(((((((1=1)))))))"), -5007);
    T.due("seventh !", law(x, "x(!!!!!!1=1)"), -5007);
    T.due("seventh [ in C", law(x, "x([[[[[[1]]]]]]=1)"), -5007);
    T.due("seventh [ in E", law(x, "p[[[[[[[1]]]]]]](1=1)"), -5007);
    T.due("E then C count apart", law(x, "p[[[[[[1]]]]]]([[[[[1]]]]]=1)"), 1);
    T.due("mixed six", law(x, "x(!(!([1]=1)))"), 1);
    T.due("mixed seven", law(x, "x(!(!([[1]]=1)))"), -5007);
    T.due("! ends with its test", law(x, "x(!!!!!1=1&!!!!!1=1|(((((1=1))))))"), 1);
    T.due("! in ( ends", law(x, "x(!!!!([1]=1)&!!!!!1=[1])"), -5007);
    T.due("! open over its test", law(x, "x(!!!!!1=[1])"), -5009);
    T.due("a 1 ahead of a 5", law(x, "x((((((a=)))))))"), -1009);
  }

  // Promise 6 by 9: bounds of what rules say
  private static void lawBounds() {
    CourtHand x = new CourtHand();
    x.courtier(0, 20, 9000);
    law(x, "i100(1=1)");
    T.due("i at most 99", x.tried(1, 30), 9099);
    law(x, "i0-5(1=1)");
    T.due("i at least 0", x.tried(1, 30), 9000);
    law(x, "i7(1=2);i8(1=1);i9(1=1)");
    T.due("the first that holds", x.tried(1, 30), 9008);
    law(x, "i7(1=2)");
    T.due("none holds", x.tried(1, 30), 9000);
    law(x, "i2+3*4-20/3%4(1=1)");
    T.due("from the left", x.tried(1, 30), 9012);
    law(x, "i[2+3]*4-1-1(1=1)");
    T.due("brackets", x.tried(1, 30), 9018);
    law(x, "i7*2/4%2+50(1=1)");
    T.due("products from the left", x.tried(1, 30), 9051);
    law(x, "i[0-7]/2+10(1=1)");
    T.due("as the machine divides", x.tried(1, 30), 9007);
    law(x, "i[0-7]%4+10(1=1)");
    T.due("as the machine leaves over", x.tried(1, 30), 9007);
    law(x, "i99999*99999/50000/1000(1=1)");
    T.due("32 bits: 1409865409", x.tried(1, 30), 9028);
    law(x, "i5(65536*32768<0)");
    T.due("32 bits go below 0", x.tried(1, 30), 9005);
    law(x, "i5([65536*32768]/[0-1]<0);i6(1=1)");
    T.due("the least by -1", x.tried(1, 30), 9005);
    x.courtier(0, 20, 9990);
    law(x, "i9(1=1)");
    T.due("ink 9999", x.tried(1, 30), 9999);
    law(x, "i10(1=1)");
    T.due("ink at most 9999", x.tried(1, 30), 9999);
  }

  // Promise 7
  private static void orderTexts() {
    CourtHand x = new CourtHand();
    Object[][] rows = {{"A", 1}, {"H9", 9}, {"A2B(CA)2", 7}, {"((A2B)3C)2", 20}, {"(A)", 1}, {"(A)(B)", 2},
      {"((A)(B))2", 4}, {"(A9)6A6", 60}, {"A9A9A9A9A9A9A6", 60}, {"", -1},
      {"I", -1000}, {"a", -1000}, {"2", -1000}, {")", -1000}, {"A0", -1001}, {"A1", -1001}, {"A22", -1002},
      {"(", -1001}, {"(A", -1002}, {"()", -1001}, {"(2", -1001}, {"(A)1", -1003}, {"(A))", -1003}, {"A)", -1001},
      {"(A)22", -1004}, {"A B", -1001}, {"((A)", -1004}, {"(())", -1002},
      {"(((A)))", -5002}, {"(A(B(C)))", -5004}, {"(A(B)(C(", -5007},
      {"A9A9A9A9A9A9A7", -6012}, {"(A9)7", -6000}, {"(A9)6A7", -6005}, {"(A9)6(A7)", -6006}, {"(A9)6(A6)2", -6005},
      {"((A9)7)2", -6001}, {"((A8)7)2", -6000}, {"(A9)6A6B", -6007}, {"(A9)6A6B1", -6007}, {"(A9)6A6(", -1008},
      {"(A9)6A6)", -1007}, {"(A9)6A6((A))", -6009}, {"(A9)6(A9", -6006}};
    for (Object[] row : rows) {
      T.due("order " + row[0], order(x, (String) row[0]), (Integer) row[1]);
    }
    T.due("the order before stays", x.count(3), 60);
    T.due("read", order(x, "A2B(CD)2"), 7);
    int[] letters = {0, 0, 1, 2, 3, 2, 3};
    for (int i = 0; i < letters.length; i++) {
      T.due("letter " + i, x.count(100 + i), letters[i]);
    }
    T.due("behind the last", x.count(107), -1);
    order(x, "A3(I");
    T.due("a fault leaves letters", x.count(102), 1);
    order(x, "((A2B)2C)2");
    String due = "AABAABCAABAABC";
    for (int i = 0; i < due.length(); i++) {
      T.due("round letter " + i, x.count(100 + i), due.charAt(i) - 'A');
    }
    x.feed(0x41320000, 0, 0, 0, 0);
    T.due("what is behind does not count", x.order(1), 1);
    T.due("60 bytes", order(x, times("B", 60)), 60);
    T.due("last of 60", x.count(159), 1);
  }

  // Promise 8
  private static void blotTexts() {
    CourtHand x = three();
    x.courtier(0, 30, 10);
    x.courtier(9, 30, 10);
    T.due("!", blots(x, "0A!"), 1);
    T.due("all white", x.formOf(0, 0), 0);
    T.due("~", blots(x, "9B~"), 1);
    T.due("each changes", x.formOf(9, 1), ALL ^ POST);
    T.due("<", blots(x, "0B<"), 1);
    T.due("left out of the grid", x.formOf(0, 1), 0);
    T.due(">", blots(x, "9A>"), 1);
    T.due("to the right", x.formOf(9, 0), 30);
    T.due("|", blots(x, "9A|"), 1);
    T.due("left and right", x.formOf(9, 0), 15);
    T.due("dots", blots(x, "0Aaey;0Aa;9C<"), 3);
    T.due("three, one again", x.formOf(0, 0), 16 | 1 << 24);
    T.due("in order", x.formOf(9, 2), RING >>> 1);
    T.due("a dot twice", blots(x, "0Abb"), 1);
    T.due("as it was", x.formOf(0, 0), 16 | 1 << 24);
    Object[][] bad = {{"", -1}, {"A!", -1000}, {"0", -1001}, {"0A", -1002}, {"0Az", -1002}, {"0A`", -1002},
      {"0A!!", -1003}, {"0A!a", -1003}, {"0Aa!", -1003}, {"0Aaz", -1003}, {"0A!;", -1004}, {"0A!;;", -1004},
      {"0I!", -1001}, {"0a!", -1001}, {"0A?", -1002}, {"0A !", -1002}, {"1A!", -7000}, {"1I!", -7000},
      {"0D!", -7001}, {"0D?", -7001}, {"0A!;1A!", -7004}, {"0A!;0H!", -7005}, {"0A~;0B~;0C", -1010}, {"/A!", -1000},
      {":A!", -1000}, {"0@!", -1001}};
    for (Object[] row : bad) {
      T.due("blots " + row[0], blots(x, (String) row[0]), (Integer) row[1]);
    }
    int[] cutDue = {-1001, -1002, 1, -1004, -1005, -1006, 2};
    x.keep();
    for (int n = 1; n <= 7; n++) {
      Checks.type(x, "0A!;0B~b");
      T.due(n + " bytes of blots", x.blots(n), cutDue[n - 1]);
    }
    T.due("dot b is cut off", x.formOf(0, 1), ALL);
    Checks.type(x, "0Aaa");
    x.blots(3);
    T.due("the second a is cut off", x.formOf(0, 0), 1);
    x.undo();
    T.due("nothing is done with a fault", x.formOf(0, 0), 16 | 1 << 24);
    T.due("20 lines", blots(x, times("0A~;", 19) + "0A~"), 20);
    T.due("back again", x.formOf(0, 0), 16 | 1 << 24);
    T.due("a 21st", blots(x, times("0A~;", 20) + "0A~"), -4080);
    T.due("a 21st of nobody", blots(x, times("0A~;", 20) + "5A~"), -4080);
    T.due("no 21st", blots(x, times("0A~;", 20) + "A"), -1080);
    T.due("the end there", blots(x, times("0A~;", 20)), -1080);
    T.due("120 bytes", blots(x, "0A" + times("a", 118)), 1);
    T.due("118 times", x.formOf(0, 0), 16 | 1 << 24);
    x.courtier(3, 0, 0);
    blots(x, "3A!");
    x.model(0, POST);
    T.due("changed is one's own", x.formOf(3, 0), 0);
  }

  // Promise 9: one moon by hand; with seed 1 the draws are 2, 7, 6, 5
  private static void moonsGoBy() {
    CourtHand x = new CourtHand();
    T.due("moons 0", x.moons(0), -1);
    T.due("moons 61", x.moons(61), -1);
    T.due("moons -1", x.moons(-1), -1);
    T.due("no moon went by", x.count(0), 0);
    x.model(0, BAR);
    x.courtier(0, 50, 20);
    law(x, "w10(1=1)");
    T.due("nothing mended", x.moons(1), 0);
    T.due("dot 65 modulo 25", x.formOf(0, 0), BAR | 1 << 15);
    T.due("X", x.count(6), 45005);
    T.due("ink", x.courtierIs(0, 1), 15);
    T.due("the moon", x.count(0), 1);
    x.seed(1);
    law(x, "p2(1=1)");
    T.due("2 is not below 2", x.moons(1), 0);
    T.due("two draws", x.count(6), 61087);
    x.seed(1);
    law(x, "p3(1=1);w7(1=1)");
    T.due("2 is below 3, 7 not below 7", x.moons(1), 1);
    T.due("mended", x.formOf(0, 0), BAR);
    T.due("ink with the dot", x.courtierIs(0, 1), 3);
    T.due("two draws again", x.count(6), 61087);
    T.due("too little ink", x.moons(1), 0);
    T.due("no draw without practice", x.count(6), 61087);
    T.due("ink stays", x.courtierIs(0, 1), 3);
    x.courtier(0, 50, 5);
    x.form(0, 0, ALL ^ BAR);
    x.moons(1);
    T.due("20 black dots are too many", x.courtierIs(0, 1), 5);
    x.form(0, 0, 0);
    law(x, "p10(1=1)");
    T.due("the lowest dot", x.moons(1), 1);
    T.due("dot 0", x.formOf(0, 0), 1);
    T.due("a white form costs nothing", x.courtierIs(0, 1), 5);
    T.due("dots 1 and 2", x.moons(2), 2);
    T.due("ink 1 and 2", x.courtierIs(0, 1), 2);
    T.due("ink for no more", x.moons(60), 0);
    T.due("60 moons more", x.count(0), 68);
    x.courtier(0, 50, 5);
    x.seed(1);
    T.due("just enough ink", x.tried(1, 2), 5);
    x.form(0, 0, 1 << 15);
    law(x, "w10(1=1)");
    x.moons(1);
    T.due("a black dot turns white", x.formOf(0, 0), 0);
    mendThenSpoil();
  }

  private static void mendThenSpoil() {
    CourtHand x = new CourtHand();
    x.model(0, BAR);
    x.courtier(0, 50, 20);
    x.form(0, 0, BAR ^ 1 << 15);
    law(x, "p10(1=1);w10(1=1)");
    T.due("mended, then spoiled at the same dot", x.moons(1), 1);
    T.due("as it was", x.formOf(0, 0), BAR ^ 1 << 15);
    x.form(0, 0, 0);
    x.courtier(0, 50, 20);
    law(x, "p10(f>0);w10(f=0)");
    x.seed(1);
    T.due("p and w see the form ahead of all", x.moons(1), 0);
    T.due("w by f as it was", x.formOf(0, 0), BAR | 1 << 15);
    x.seed(1);
    T.due("then p alone", x.moons(1), 1);
    T.due("mended alone", x.formOf(0, 0), BAR);
  }

  // Promise 9: ages, the last moon
  private static void moonEdges() {
    CourtHand x = new CourtHand();
    x.courtier(0, 30, 0);
    x.courtier(1, 98, 0);
    x.moons(11);
    T.due("age in moon 11", x.courtierIs(0, 0), 30);
    x.moons(1);
    T.due("age in moon 12", x.courtierIs(0, 0), 31);
    T.due("age 99", x.courtierIs(1, 0), 99);
    x.moons(12);
    T.due("age in moon 24", x.courtierIs(0, 0), 32);
    T.due("99 at most", x.courtierIs(1, 0), 99);
    law(x, "i1(1=1)");
    for (int i = 0; i < 166; i++) {
      x.moons(60);
    }
    T.due("moon", x.count(0), 9984);
    T.due("tried as many as can", x.tried(60, 30), 9960 + 15);
    x.moons(60);
    T.due("9999 at most", x.count(0), 9999);
    T.due("15 moons", x.courtierIs(0, 1), 9960 + 15);
    T.due("then none", x.moons(60), 0);
    T.due("none", x.courtierIs(0, 1), 9960 + 15);
    T.due("none tried", x.tried(3, 30), 9960 + 15);
  }

  // Promise 9: what the names in a law stand for
  private static void lawNames() {
    CourtHand x = three();
    x.courtier(0, 40, 30);
    x.courtier(1, 40, 30);
    x.form(0, 1, POST ^ 3);
    String[] rules = {"ic+5(c=1)", "ia(c=1)", "il(c=1)", "ig+10(c=0)", "is+10(c=0)", "ik+f+d+7(c=1)", "im(c=1)"};
    int[] who = {31, 31, 31, 30, 30, 31, 31};
    int[] due = {36, 70, 60, 41, 42, 37, 30};
    for (int i = 0; i < rules.length; i++) {
      law(x, rules[i] + ";x(1=1)");
      T.due("law " + rules[i], x.tried(1, who[i]), due[i]);
    }
    law(x, "im(1=1);x(1=1)");
    T.due("0 + 1 + .. 11 + 0 + 1", x.tried(14, 30), 30 + 66 + 1);
    law(x, "x(!(k=1&f=2&d=5&s=2&c=0&g=1&a=40&l=30))");
    T.due("x by k f d s c g a l", x.tried(1, 2), 5);
    law(x, "x(k=0);x(k=2);p10(l=30)");
    T.due("p asked ahead of ink", x.tried(1, 0), 1);
    law(x, "x(k=0);x(k=2);p10(l<30)");
    T.due("not behind it", x.tried(1, 0), 0);
    law(x, "i9(1=1);x(k=0);x(k=2);p10(l=39)");
    T.due("p asked behind the ink of the moon", x.tried(1, 0), 1);
    law(x, "p10(k=1&c=0);w10(k=2&s<2)");
    T.due("s follows each form", x.tried(1, 1), 2);
    law(x, "p10(c=0);w0(1=1);x(k=2);x(c=1&!g=0)");
    T.due("g as the moon began", x.tried(2, 31), 30 - 20);
    T.due("age and rank", x.tried(3, 20), 0);
    x.form(0, 1, POST ^ 1);
    law(x, "p10(c=0);x(c=1&!g=0);x(k=0)");
    T.due("rank as the moon began", x.tried(1, 31), 30 - 13);
    T.due("rank of the next moon", x.tried(2, 31), 30 - 13);
  }

  // Promise 6 by 9: what is divided by 0
  private static void lawRefusals() {
    CourtHand x = new CourtHand();
    x.courtier(0, 20, 100);
    Object[][] rows = {{"i5(1/0=1)", 0}, {"i5(!(1/0=1))", 0}, {"i5(!1%0=1)", 0}, {"i5(1=1|1/0=1)", 5},
      {"i5(1/0=1|1=1)", 0}, {"i5(1=2&1/0=1|1=1)", 5}, {"i5(1=2|1/0=1|1=1)", 0}, {"i5((1=1|1/0=0)&1=1)", 5},
      {"i5(!(1=1|1/0=0)|1=1)", 5}, {"i5(!(1=2&1/0=0))", 5}, {"i5(1=1&1=1&1=2&1/0=0|2=2)", 5},
      {"i5(1=2|1=2|1=1|1/0=0)", 5}, {"i5+1/0(1=1)", 0}, {"i1/0(1=1);i5(1=1)", 0}, {"i1/0(1=2);i5(1=1)", 5},
      {"i5(1/0=1);i6(1=1)", 6}, {"i5+0*[1/0](1=1)", 0}, {"i5(1/[a-20]=1);i7(a%[a-19]=0)", 7}, {"i5(0/1=0%1)", 5},
      {"i5((1=2|1=1)&(1=1|1=2))", 5}, {"i5((1=1|1=2)&1=2)", 0}, {"i5(1=1|1=1&1=2)", 5}, {"i5(!1=1|1=1)", 5},
      {"i5(1>1|1<1)", 0}, {"i5(2>1&1<2)", 5}, {"i5(!2>1)", 0}, {"i5(!!2>1)", 5}};
    for (Object[] row : rows) {
      T.due("rules " + row[0], law(x, (String) row[0]) > 0, true);
      T.due("law " + row[0], x.tried(1, 30), 100 + (Integer) row[1]);
    }
    x.model(0, 1);
    law(x, "x(1/0=1)");
    T.due("a refused x does not hold", x.tried(1, 2), 1);
    law(x, "x(1=2);x(1=1)");
    T.due("any x will do", x.tried(1, 2), 0);
    law(x, "x(1=2);x(1/0=1|1=1)");
    T.due("no x", x.tried(1, 2), 1);
  }

  // Promise 10
  private static void triedMoons() {
    CourtHand x = three();
    T.due("nobody", x.tried(1, 3), -2);
    T.due("nobody mends", x.tried(1, 0), 0);
    T.due("nobody's faults", x.tried(1, 10), -1);
    x.courtier(0, 30, 100);
    x.courtier(9, 40, 5);
    x.form(0, 0, 15);
    x.form(9, 1, 1);
    law(x, "p10(1=1);i10(1=1)");
    T.due("mended", x.tried(1, 0), 2);
    T.due("spoiled", x.tried(1, 1), 0);
    T.due("ink", x.tried(1, 2), 4 + 5 + 8 + 5 + 1 + 8);
    T.due("first", x.tried(1, 3), 0);
    T.due("faults", x.tried(1, 19), 3);
    T.due("rank", x.tried(1, 29), 1);
    T.due("ink left", x.tried(1, 39), 1);
    T.due("ink left of 0", x.tried(1, 30), 93);
    int[] wrongs = {-1, 4, 9, 11, 18, 21, 38, 40, 49, 100};
    for (int what : wrongs) {
      T.due("tried what " + what, x.tried(1, what), -1);
    }
    T.due("tried 0", x.tried(0, 0), -1);
    T.due("tried 61", x.tried(61, 0), -1);
    T.due("nothing is changed: X", x.count(6), 1);
    T.due("nothing is changed: moon", x.count(0), 0);
    T.due("nothing is changed: form", x.formOf(9, 1), 1);
    T.due("nothing is changed: ink", x.courtierIs(0, 1), 100);
    law(x, "p10(c=9&k=1);i10(1=1)");
    x.form(0, 0, 7);
    x.form(9, 1, POST ^ 7);
    T.due("rank now", x.courtierIs(9, 3), 1);
    T.due("rank in the end", x.tried(1, 29), 0);
    x.form(0, 0, 15);
    x.form(9, 1, 1);
    law(x, "w10(1=1);i99(1=1)");
    T.due("spoiled in one", x.tried(1, 1), 6);
    T.due("ink in one", x.tried(1, 2), 31);
    int spoiled = x.tried(2, 1);
    int faults = x.tried(2, 10);
    int first = x.tried(2, 3);
    T.due("all spoiled", spoiled, 12);
    x.moons(2);
    T.due("as it was tried: faults", x.courtierIs(0, 2), faults);
    T.due("as it was tried: first", x.commands(), first);
  }

  // Promise 11
  private static void courtiersAre() {
    CourtHand x = three();
    x.courtier(2, 33, 44);
    x.courtier(5, 34, 44);
    x.courtier(6, 34, 44);
    T.due("age", x.courtierIs(2, 0), 33);
    T.due("ink", x.courtierIs(2, 1), 44);
    T.due("faults", x.courtierIs(2, 2), 0);
    T.due("rank by age", x.courtierIs(2, 3), 2);
    T.due("rank of like ones", x.courtierIs(5, 3), 0);
    T.due("rank of the other", x.courtierIs(6, 3), 1);
    x.form(5, 0, 15);
    x.form(5, 1, POST | 2);
    T.due("faults of all", x.courtierIs(5, 2), 2);
    T.due("last by faults", x.courtierIs(5, 3), 2);
    T.due("first of like ones", x.courtierIs(6, 3), 0);
    x.form(2, 0, POST);
    x.form(2, 1, 1);
    T.due("as they are meant", x.courtierIs(2, 4), 1);
    T.due("can't be read", x.courtierIs(2, 5), 1);
    T.due("faults 8 + 4", x.courtierIs(2, 2), 12);
    T.due("what 6", x.courtierIs(2, 6), -1);
    T.due("what -1", x.courtierIs(2, -1), -1);
    T.due("nobody", x.courtierIs(3, 0), -1);
    T.due("10", x.courtierIs(10, 0), -1);
    T.due("-1", x.courtierIs(-1, 0), -1);
    x.form(2, 1, POST);
    T.due("A as B", x.courtierIs(2, 4), 2);
    x.form(2, 0, 1);
    T.due("A can't be read", x.courtierIs(2, 5), 1);
    x.form(2, 0, BAR);
    T.due("all as they are meant", x.courtierIs(2, 4), 3);
    x.form(2, 0, POST);
    x.form(2, 1, 1);
    x.model(0, POST);
    T.due("faults follow the model", x.courtierIs(2, 2), 4);
  }

  // Promises 14, 15
  private static void readings() {
    CourtHand x = new CourtHand();
    T.due("no model", x.read(5), -2);
    x.model(5, 7);
    T.due("one model", x.read(ALL), 5);
    x.model(1, 7);
    T.due("two like ones", x.read(7), -2);
    x.model(0, 6);
    T.due("nearer than two like ones", x.read(6), 0);
    T.due("behind two like ones", x.read(15), -2);
    x.model(6, 15);
    T.due("the last is nearest", x.read(15), 6);
    T.due("read -1", x.read(-1), -1);
    T.due("read too large", x.read(ALL + 1), -1);
    T.due("apart", x.apart(5, 6), 2);
    T.due("apart the same", x.apart(5, 5), 0);
    T.due("apart all", x.apart(0, ALL), 25);
    T.due("apart -1", x.apart(-1, 0), -1);
    T.due("apart other", x.apart(0, ALL + 1), -1);
  }

  // Promise 16
  private static void writtenSheets() {
    CourtHand x = three();
    x.courtier(0, 30, 25);
    T.due("no order", x.written(0, 0), 0);
    T.due("no order, no ink", x.written(0, 3), 0);
    T.due("no order, enough", x.written(0, 4), 0);
    order(x, "AB2CDA");
    x.form(0, 1, 1);
    T.due("as meant", x.written(0, 0), 3);
    T.due("as others", x.written(0, 1), 0);
    T.due("can't be", x.written(0, 2), 2);
    T.due("ink", x.written(0, 3), 5 + 2 + 8 + 5);
    T.due("enough till D", x.written(0, 4), 4);
    x.courtier(0, 30, 14);
    x.form(0, 1, BAR);
    T.due("as others: 2", x.written(0, 1), 2);
    T.due("enough for two", x.written(0, 4), 2);
    x.courtier(0, 30, 15);
    T.due("just enough for three", x.written(0, 4), 3);
    x.model(3, 0);
    x.courtier(0, 30, 23);
    T.due("a white one needs none", x.written(0, 4), 5);
    x.courtier(0, 30, 28);
    T.due("all", x.written(0, 4), 6);
    T.due("what 5", x.written(0, 5), -1);
    T.due("what -1", x.written(0, -1), -1);
    T.due("nobody", x.written(1, 0), -1);
    T.due("10", x.written(10, 0), -1);
  }

  private static int copied(CourtHand x, int what, int... who) {
    StringBuilder text = new StringBuilder();
    for (int c : who) {
      text.append((char) c);
    }
    return x.copied(Checks.type(x, text.toString()), what);
  }

  // Promise 17
  private static void copies() {
    CourtHand x = three();
    x.courtier(0, 30, 0);
    x.courtier(1, 30, 0);
    T.due("no order", copied(x, 100, 0), 0);
    T.due("no order, no place", copied(x, 0, 0), -4);
    order(x, "ABCA");
    T.due("all are left", copied(x, 100, 0, 1, 0), 4);
    T.due("as they were", copied(x, 101, 0, 1, 0), 4);
    x.form(0, 0, POST);
    x.form(1, 1, RING);
    T.due("A is B by 0", copied(x, 0, 0), 1);
    T.due("A is C by 0 and 1", copied(x, 0, 0, 1), 2);
    T.due("A is B by 1 and 0", copied(x, 0, 1, 0), 1);
    T.due("left", copied(x, 100, 0, 1), 4);
    T.due("as they were: C", copied(x, 101, 0, 1), 1);
    x.form(1, 1, 1);
    T.due("B is left out", copied(x, 100, 1), 3);
    T.due("C at place 1", copied(x, 1, 1), 2);
    T.due("place 3", copied(x, 3, 1), -4);
    T.due("place 59", copied(x, 59, 1), -4);
    T.due("as they were: A", copied(x, 101, 1), 1);
    T.due("12 of them", copied(x, 100, 1, 1, 1, 1, 1, 1, 1, 1, 1, 1, 1, 1), 3);
    T.due("not told", copied(x, 100, 0, 2), -2);
    T.due("no such courtier", copied(x, 100, 0, 10), -2);
    T.due("no such byte", copied(x, 100, 255), -2);
    T.due("-2 ahead of -4", copied(x, 59, 2), -2);
    T.due("empty then", x.count(5), 0);
    order(x, "DAD");
    T.due("without a model left out", copied(x, 100, 1), 1);
    T.due("A comes first", copied(x, 0, 1), 0);
    T.due("not in its place", copied(x, 101, 1), 0);
    T.due("the order stays", x.count(3), 3);
  }

  // Promise 18
  private static void anotherLetter() {
    CourtHand x = new CourtHand();
    T.due("no model", x.another(0, 0, 0), -1);
    x.model(0, 0);
    T.due("the only model", x.another(ALL, 0, 0), 0);
    x.model(1, 31);
    T.due("read already", x.another(3, 0, 0), 0);
    T.due("no dots", x.another(3, 0, 1), 0);
    T.due("one more", x.another(3, 1, 0), 1);
    T.due("the least: dot 2", x.another(3, 1, 1), 4);
    T.due("three", x.another(0, 1, 0), 3);
    T.due("the least three", x.another(0, 1, 1), 7);
    T.due("two", x.another(1, 1, 0), 2);
    T.due("the least two", x.another(1, 1, 1), 6);
    T.due("two back", x.another(15, 0, 0), 2);
    T.due("two back: which", x.another(15, 0, 1), 3);
    x.model(1, 127);
    T.due("not by 3", x.another(0, 1, 0), -2);
    T.due("not by 3: which", x.another(0, 1, 1), -2);
    T.due("by 3", x.another(1, 1, 1), 14);
    x.model(2, 127);
    T.due("like models can't", x.another(127, 1, 0), -2);
    x.model(2, 96);
    T.due("away from both", x.another(97, 1, 0), 2);
    T.due("away from both: which", x.another(97, 1, 1), 6);
    T.due("grid -1", x.another(-1, 0, 0), -1);
    T.due("grid too large", x.another(ALL + 1, 0, 0), -1);
    T.due("letter without", x.another(0, 3, 0), -1);
    T.due("letter 8", x.another(0, 8, 0), -1);
    T.due("what 2", x.another(0, 0, 2), -1);
    T.due("what -1", x.another(0, 0, -1), -1);
  }

  private static int whose(CourtHand x, int letters, int what, int a, int b) {
    x.feed(a, b, 0, 0, 0);
    return x.whose(letters, what);
  }

  // Promise 19
  private static void whoseSheet() {
    CourtHand x = three();
    T.due("nobody is told", whose(x, 3, 0, -1, 0), -2);
    T.due("empty then", x.count(5), 0);
    x.courtier(3, 0, 0);
    x.form(3, 0, 15);
    T.due("the only one", whose(x, 3, 0, BAR, POST), 3);
    T.due("how far", whose(x, 3, 1, BAR, POST), 1);
    T.due("no next one", whose(x, 3, 2, BAR, POST), -2);
    x.courtier(7, 0, 0);
    T.due("7 is nearer", whose(x, 3, 0, BAR, POST), 7);
    T.due("7 is there", whose(x, 3, 1, BAR, POST), 0);
    T.due("3 is one off", whose(x, 3, 2, BAR, POST), 1);
    T.due("3 is nearer", whose(x, 3, 0, 15, POST), 3);
    T.due("by B and C alone like ones", whose(x, 6, 0, POST, RING), 3);
    T.due("none more", whose(x, 6, 2, POST, RING), 0);
    T.due("A and C", whose(x, 5, 1, BAR, RING ^ 7), 3);
    T.due("no such grid", whose(x, 3, 0, BAR, ALL + 1), -3);
    T.due("no such grid below 0", whose(x, 3, 0, -1, 0), -3);
    x.courtier(0, 0, 0);
    T.due("0 of like ones", whose(x, 3, 0, BAR, POST), 0);
    x.form(0, 0, 0);
    T.due("0 is far", whose(x, 3, 0, BAR, POST), 7);
    T.due("the next is not the last", whose(x, 3, 2, BAR, POST), 1);
    T.due("only told grids count", whose(x, 1, 0, BAR, -1), 7);
    x.feed(0, 0, 0, 0, 0);
    T.due("letters 0", x.whose(0, 0), -1);
    T.due("letters without models", x.whose(8, 0), -1);
    T.due("letters partly without", x.whose(9, 0), -1);
    T.due("letters 256", x.whose(257, 0), -1);
    T.due("letters -1", x.whose(-1, 0), -1);
    T.due("what 3", x.whose(1, 3), -1);
    T.due("what -1", x.whose(1, -1), -1);
    T.due("the tape stays", x.count(5), 20);
    for (int k = 3; k < 8; k++) {
      x.model(k, k);
    }
    T.due("not so many", x.whose(255, 0), -1);
    T.due("it stays", x.count(5), 20);
    x.feed(0, 0, 0, 0, 0);
    x.courtier(0, 0, 0);
    x.form(0, 7, ALL);
    T.due("all eight", x.whose(255, 1), Integer.bitCount(15) + 5 + 8 + 2 + 1 + 2 + 2 + 3);
  }

  // Promises 20, 21
  private static void forgeAndAlike() {
    CourtHand x = three();
    T.due("nobody", x.alike(5, 100), 0);
    x.courtier(0, 0, 0);
    x.courtier(4, 0, 0);
    x.courtier(9, 0, 0);
    x.form(0, 0, 3);
    x.form(4, 1, POST | 6);
    x.form(9, 1, POST | 510);
    T.due("forge 0 4", x.forge(0, 4), 5);
    T.due("forge 4 0", x.forge(4, 0), 5);
    T.due("forge 4 9", x.forge(4, 9), 5);
    T.due("forge 0 9", x.forge(0, 9), Integer.bitCount(510 & ~POST) + 3);
    T.due("the same", x.forge(4, 4), -1);
    T.due("not told", x.forge(4, 5), -1);
    T.due("not told first", x.forge(5, 4), -1);
    T.due("10", x.forge(4, 10), -1);
    T.due("-1", x.forge(-1, 4), -1);
    T.due("groups by 4", x.alike(4, 100), 3);
    T.due("groups by 5", x.alike(5, 100), 1);
    T.due("by others", x.alike(5, 0), 1 + 16 + 512);
    T.due("alone", x.alike(4, 9), 512);
    T.due("groups by 0", x.alike(0, 100), 3);
    T.due("groups by 200", x.alike(200, 100), 1);
    T.due("dots -1", x.alike(-1, 100), -1);
    T.due("dots 201", x.alike(201, 100), -1);
    T.due("not told", x.alike(5, 1), -1);
    T.due("what 10", x.alike(5, 10), -1);
    T.due("what 101", x.alike(5, 101), -1);
    T.due("what -1", x.alike(5, -1), -1);
    x.courtier(1, 0, 0);
    x.form(1, 0, 0);
    T.due("0 is near 1", x.alike(2, 1), 3);
    T.due("1 is near 0", x.alike(2, 0), 3);
    T.due("1 and 0 and two more", x.alike(2, 100), 3);
    x.courtier(1, 0, 0);
    x.form(1, 1, POST | 510);
    T.due("9 to 1, 0 by 4", x.alike(5, 9), 1 + 2 + 16 + 512);
    x.form(9, 1, POST | 6);
    x.form(1, 1, 0);
    x.form(1, 0, ALL);
    T.due("two alike, 1 far off", x.alike(0, 100), 3);
    x.form(1, 0, 3);
    x.form(1, 1, POST);
    T.due("two alike", x.alike(0, 100), 2);
    T.due("which", x.alike(0, 9), 16 + 512);
  }

  // Promises 22, 23
  private static void risesAndCommands() {
    CourtHand x = three();
    T.due("nobody commands", x.commands(), -2);
    T.due("nobody rises", x.rises(1, 0), -2);
    T.due("no places", x.rises(1, 1), 0);
    for (int c = 1; c <= 4; c++) {
      x.courtier(c, 50, 9999);
      x.form(c, 0, (BAR >> c - 1) & BAR);
    }
    T.due("commands", x.commands(), 1);
    law(x, "p10(c>2)");
    T.due("who rises in two", x.rises(2, 0), 3);
    T.due("by how many", x.rises(2, 1), 1);
    T.due("the lowest of like ones in three", x.rises(3, 0), 3);
    T.due("places in three", x.rises(3, 1), 1);
    law(x, "p10(c=4)");
    T.due("4 in one", x.rises(1, 0), -2);
    T.due("4 in one: places", x.rises(1, 1), 0);
    T.due("4 in two", x.rises(2, 0), 4);
    T.due("4 in two: places", x.rises(2, 1), 1);
    T.due("4 in three: behind 2", x.rises(3, 1), 2);
    x.courtier(4, 60, 9999);
    x.form(4, 0, BAR >> 3);
    T.due("the older in three", x.rises(3, 1), 3);
    T.due("rises in sixty", x.rises(60, 0), 4);
    x.courtier(0, 70, 9999);
    x.form(0, 0, 0);
    law(x, "p10(c=0)");
    T.due("0 rises in five", x.rises(5, 0), 0);
    T.due("0 rises by four", x.rises(5, 1), 4);
    x.form(0, 0, BAR);
    T.due("first already", x.rises(5, 1), 0);
    x.form(0, 0, 0);
    T.due("ranks as they are now", x.rises(5, 1), 4);
    x.courtier(0, 0, 0);
    x.form(0, 0, 0);
    T.due("rises 0", x.rises(0, 0), -1);
    T.due("rises 61", x.rises(61, 0), -1);
    T.due("rises what 2", x.rises(1, 2), -1);
    T.due("rises what -1", x.rises(1, -1), -1);
    T.due("nothing is changed", x.count(0), 0);
    x.form(4, 0, BAR);
    T.due("the older commands", x.commands(), 4);
    x.courtier(0, 60, 0);
    T.due("the lowest commands", x.commands(), 0);
    x.form(0, 1, 0);
    T.due("fewest faults command", x.commands(), 4);
  }

  // Promise 24
  private static void clearLetters() {
    CourtHand x = new CourtHand();
    x.courtier(1, 0, 0);
    T.due("no model", x.clear(1, 0), -2);
    x.model(6, BAR);
    T.due("one model", x.clear(1, 2), -2);
    x.model(3, RING);
    T.due("first", x.clear(1, 0), 3);
    T.due("other", x.clear(1, 1), 6);
    T.due("how far", x.clear(1, 2), 13);
    x.model(0, 0);
    x.model(7, 0);
    T.due("like ones: first", x.clear(1, 0), 0);
    T.due("like ones: other", x.clear(1, 1), 7);
    T.due("like ones: how far", x.clear(1, 2), 0);
    x.form(1, 7, RING);
    T.due("by forms: first", x.clear(1, 0), 3);
    T.due("by forms: other", x.clear(1, 1), 7);
    x.form(1, 6, 0);
    T.due("the lowest first", x.clear(1, 0), 0);
    T.due("its other", x.clear(1, 1), 6);
    x.form(1, 7, 0);
    T.due("the lowest other", x.clear(1, 1), 6);
    for (int k = 0; k < 8; k++) {
      x.model(k, (1 << 2 * k) - 1);
      x.form(1, k, (1 << 2 * k) - 1);
    }
    T.due("neighbours: first", x.clear(1, 0), 0);
    T.due("neighbours: other", x.clear(1, 1), 1);
    T.due("neighbours: how far", x.clear(1, 2), 2);
    x.form(1, 6, x.modelOf(7));
    T.due("the last two", x.clear(1, 0), 6);
    T.due("what 3", x.clear(1, 3), -1);
    T.due("what -1", x.clear(1, -1), -1);
    T.due("nobody", x.clear(0, 0), -1);
    T.due("10", x.clear(10, 0), -1);
  }

  private static void shape(int grid, int loops, int strokes, int cross, int pen) {
    CourtHand x = new CourtHand();
    T.due("loops of " + grid, x.shape(grid, 0), loops);
    T.due("strokes of " + grid, x.shape(grid, 1), strokes);
    T.due("cross of " + grid, x.shape(grid, 2), cross);
    T.due("dots of " + grid, x.shape(grid, 3), Integer.bitCount(grid));
    T.due("pen of " + grid, x.shape(grid, 6), pen);
  }

  // Promise 25
  private static void shapes() {
    shape(0, 0, 0, -2, 0);
    shape(ALL, 0, 1, 2, 5);
    shape(1, 0, 1, 0, 0);
    shape(Checks.grid("#####", "#...#", "#...#", "#...#", "#####"), 1, 1, 0, 0);
    shape(Checks.grid("#####", "#.#.#", "#####", "#.#.#", "#####"), 4, 1, 2, 1);
    shape(Checks.grid(".#...", "#.#..", ".#...", "...#.", "....."), 1, 2, 0, 4);
    shape(Checks.grid("#####", "#...#", "#.#.#", "#...#", "#####"), 1, 2, 0, 1);
    shape(Checks.grid("#####", "#..##", "##..#", "##..#", "#####"), 1, 1, 0, 2);
    shape(Checks.grid("#####", "#.###", "##..#", "##..#", "#####"), 2, 1, 0, 3);
    shape(Checks.grid("####.", "#..#.", "#..##", "####.", "....."), 1, 1, 0, 0);
    shape(Checks.grid("###..", "#.#..", "#....", "###..", "....."), 0, 1, 0, 0);
    shape(Checks.grid("#....", "....#", "#....", "....#", "#...."), 0, 5, 0, 4);
    shape(Checks.grid("....#", "#....", "....#", ".....", "....."), 0, 3, 0, 2);
    shape(Checks.grid(".#...", "###..", ".#...", ".....", "....."), 0, 1, 1, 1);
    shape(Checks.grid("..#..", "..#..", "##.##", "..#..", "..#.."), 1, 1, 0, 3);
    shape(Checks.grid("..#..", "..#..", "#####", "..#..", "..#.."), 0, 1, 2, 1);
    shape(Checks.grid("..#..", ".....", "#.#.#", ".....", "..#.."), 0, 5, 0, 4);
    shape(Checks.grid("..#..", "..#..", "#####", "..#..", "....."), 0, 1, 1, 1);
    shape(Checks.grid(".....", "...#.", "..###", "...#.", "##..."), 0, 2, 1, 2);
    shape(ALL ^ 1 << 2, 0, 1, 1, 4);
    shape(ALL ^ 1 << 10, 0, 1, 1, 4);
    shape(ALL ^ 1 << 14, 0, 1, 1, 4);
    shape(ALL ^ 1 << 22, 0, 1, 1, 4);
    shape(ALL ^ 1 << 12, 1, 1, 1, 7);
    shape(Checks.grid(".....", ".###.", ".#.#.", ".###.", "....."), 1, 1, 0, 0);
    CourtHand x = new CourtHand();
    int flag = Checks.grid("####.", "#....", "###..", "#....", "#....");
    T.due("mirrored", x.shape(flag, 4), Checks.grid(".####", "....#", "..###", "....#", "....#"));
    T.due("turned", x.shape(flag, 5), Checks.grid("#####", "..#.#", "..#.#", "....#", "....."));
    T.due("what 7", x.shape(1, 7), -1);
    T.due("what -1", x.shape(1, -1), -1);
    T.due("grid -1", x.shape(-1, 3), -1);
    T.due("grid too large", x.shape(ALL + 1, 3), -1);
  }

  // Promise 26
  private static void likes() {
    CourtHand x = new CourtHand();
    int flag = Checks.grid("####.", "#....", "###..", "#....", "#....");
    int shown = flag;
    for (int how = 0; how < 4; how++) {
      T.due("turned", x.like(flag, shown), how);
      shown = x.shape(shown, 5);
    }
    T.due("four quarters", shown, flag);
    shown = x.shape(flag, 4);
    for (int how = 4; how < 8; how++) {
      T.due("mirrored and turned", x.like(flag, shown), how);
      shown = x.shape(shown, 5);
    }
    T.due("the least", x.like(RING, RING), 0);
    T.due("the least of a bar", x.like(BAR, 31 << 20), 2);
    T.due("not", x.like(flag, flag ^ 1), -2);
    T.due("white", x.like(0, 0), 0);
    T.due("grid -1", x.like(-1, 0), -1);
    T.due("other too large", x.like(0, ALL + 1), -1);
  }

  // Promise 27
  private static void toldApartLetters() {
    CourtHand x = new CourtHand();
    T.due("no models", x.toldApart(2, 0), -2);
    x.model(1, 0);
    x.model(2, 0);
    T.due("like ones", x.toldApart(2, 0), 0);
    T.due("like ones: which", x.toldApart(2, 1), 6);
    x.model(4, 7);
    T.due("three dots", x.toldApart(2, 0), 3);
    T.due("the least bits", x.toldApart(2, 1), 18);
    T.due("three", x.toldApart(3, 0), 0);
    T.due("three: which", x.toldApart(3, 1), 22);
    x.model(7, 7 << 3);
    T.due("farthest two", x.toldApart(2, 0), 6);
    T.due("farthest two: which", x.toldApart(2, 1), 16 + 128);
    T.due("farthest three", x.toldApart(3, 0), 3);
    T.due("farthest three: which", x.toldApart(3, 1), 2 + 16 + 128);
    T.due("five", x.toldApart(5, 0), -2);
    T.due("k 1", x.toldApart(1, 0), -1);
    T.due("k 9", x.toldApart(9, 0), -1);
    T.due("what 2", x.toldApart(2, 2), -1);
    T.due("what -1", x.toldApart(2, -1), -1);
    for (int k = 0; k < 8; k++) {
      x.model(k, 3 << 2 * k);
    }
    T.due("all eight", x.toldApart(8, 0), 4);
    x.model(0, 12 + 1);
    T.due("A and B are near", x.toldApart(8, 0), 1);
    x.model(0, 3);
    T.due("all eight: which", x.toldApart(8, 1), 255);
  }

  // Promises 28, 29, 30
  private static void seedKeepUndo() {
    CourtHand x = three();
    T.due("seed -1", x.seed(-1), false);
    T.due("seed 65536", x.seed(65536), false);
    T.due("still 1", x.count(6), 1);
    T.due("seed 0", x.seed(0), true);
    T.due("X 0", x.count(6), 0);
    T.due("seed 65535", x.seed(65535), true);
    T.due("X 65535", x.count(6), 65535);
    T.due("none was kept", x.undo(), false);
    x.courtier(0, 11, 100);
    x.form(0, 0, 7);
    x.moons(3);
    T.due("keep", x.keep(), 3);
    int drawn = x.count(6);
    int ink = x.courtierIs(0, 1);
    law(x, "w10(1=1)");
    order(x, "AB");
    x.courtier(1, 1, 1);
    x.moons(10);
    x.form(0, 1, 9);
    x.model(1, 4);
    x.seed(5);
    T.due("undo", x.undo(), true);
    T.due("the moon", x.count(0), 3);
    T.due("X", x.count(6), drawn);
    T.due("told", x.count(1), 1);
    T.due("ink", x.courtierIs(0, 1), ink);
    T.due("age", x.courtierIs(0, 0), 11);
    T.due("own form", x.formOf(0, 0), 7);
    T.due("not its own again", x.formOf(0, 1), 4);
    T.due("models stay", x.modelOf(1), 4);
    T.due("the law stays", x.count(4), 1);
    T.due("the order stays", x.count(3), 2);
    x.courtier(2, 2, 2);
    T.due("undo again", x.undo(), true);
    T.due("told again", x.count(1), 1);
    x.moons(1);
    T.due("keep the last", x.keep(), 4);
    x.moons(1);
    x.undo();
    T.due("as kept last", x.count(0), 4);
  }

  // Promise 31
  private static void checks() {
    CourtHand x = three();
    x.courtier(0, 0, 0);
    x.courtier(2, 0, 0);
    x.form(0, 0, 30);
    x.form(2, 2, ALL);
    x.feed(0x01001100, 0, 0, 0, 0);
    T.due("right", x.check(10), -1);
    T.due("empty then", x.count(5), 0);
    x.feed(0x01001000, 0, 0, 0, 0);
    T.due("2 is not so", x.check(3), 2);
    x.feed(0x01001000, 0, 0, 0, 0);
    T.due("two of them", x.check(2), -1);
    x.feed(0x02001000, 0, 0, 0, 0);
    T.due("the first", x.check(3), 0);
    x.feed(0x01011100, 0, 0, 0, 0);
    T.due("not told is 0", x.check(3), 1);
    T.due("none on the tape", x.check(1), -2);
    T.due("none wanted", x.check(0), -1);
    for (int k = 0; k < 8; k++) {
      x.model(k, 0);
      x.form(2, k, ALL);
    }
    x.feed(0x0500C800, 0, 0, 0, 0);
    T.due("200 faults", x.check(3), 0);
    x.feed(0x0400C800, 0, 0, 0, 0);
    T.due("200 faults right", x.check(3), -1);
  }

  // Promise 32
  private static void counts() {
    CourtHand x = three();
    x.courtier(3, 0, 0);
    order(x, "HA");
    law(x, "x(1=1);p1(1=1)");
    x.moons(2);
    x.seed(77);
    x.feed(0, 0, 0, 0, 0);
    int[] due = {2, 8, 7, 2, 2, 20, 77, -1};
    for (int what = 0; what < due.length; what++) {
      T.due("count " + what, x.count(what), due[what]);
    }
    T.due("count 100", x.count(100), 7);
    T.due("count 101", x.count(101), 0);
    T.due("count 102", x.count(102), -1);
    T.due("count 99", x.count(99), -1);
    T.due("count 160", x.count(160), -1);
    T.due("count -1", x.count(-1), -1);
    T.due("count least", x.count(Integer.MIN_VALUE), -1);
    T.due("count most", x.count(Integer.MAX_VALUE), -1);
  }
}
