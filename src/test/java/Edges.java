import java.io.IOException;
import java.nio.file.Files;
import java.nio.file.Path;
import java.util.Set;
import java.util.TreeSet;

/** What the tests of the document's edges share: the sentence at hand, and what a refused call leaves as it was. */
final class Edges {
  interface Call {
    int on(CourtHand x);
  }

  interface Telling {
    boolean on(CourtHand x);
  }

  private static final Path DOCUMENT = Path.of("../shared/DOC.md");

  private final Checks checks = new Checks();
  private final String document;
  private final Set<String> quoted = new TreeSet<>();
  private String sentence = "";

  Edges() throws IOException {
    document = Files.exists(DOCUMENT) ? Files.readString(DOCUMENT).replaceAll("\\s+", " ") : "";
  }

  /** The words by which the answers below are due; they must stand in that part of the document. */
  void says(String part, String words) {
    sentence = part + ", '" + words + "': ";
    quoted.add(part);
    if (!document.isEmpty()) {
      checks.due(sentence + "stands in the document", part(part).contains(words), true);
    }
  }

  private String part(String name) {
    int from = document.indexOf(" ## " + name);
    int to = from < 0 ? -1 : document.indexOf(" ## ", from + 4);
    return from < 0 ? "" : to < 0 ? document.substring(from) : document.substring(from, to);
  }

  void due(String call, int got, int want) {
    checks.due(sentence + call, got, want);
  }

  void due(String call, boolean got, boolean want) {
    checks.due(sentence + call, got, want);
  }

  /** A call that answers NONE leaves all as it was, the tape too. */
  void none(String call, Call refused) {
    leaves(call, refused, CourtHand.NONE);
  }

  /** A call that answers false leaves all as it was. */
  void denied(String call, Telling refused) {
    leaves(call, x -> refused.on(x) ? 1 : 0, 0);
  }

  /** A call with that answer leaves all as it was, the tape too. */
  void leaves(String call, Call refused, int answer) {
    CourtHand x = Scene.court();
    due(call, refused.on(x), answer);
    same(call, x, Scene.court());
  }

  /** A call with that answer, behind that text on an empty tape, leaves all as it was but for the tape: empty. */
  void empties(String text, Call call, int answer) {
    CourtHand x = Scene.court();
    x.check(0);
    Checks.type(x, text);
    due("'" + text + "'", call.on(x), answer);
    CourtHand y = Scene.court();
    y.check(0);
    same("'" + text + "'", x, y);
  }

  /** Looks at both courts as wholes, which changes them. */
  void same(String call, CourtHand x, CourtHand y) {
    String[] got = Scene.look(x).split(";");
    String[] want = Scene.look(y).split(";");
    String unlike = got.length == want.length ? "" : "more or less";
    for (int i = 0; i < Math.min(got.length, want.length) && unlike.isEmpty(); i++) {
      unlike = got[i].equals(want[i]) ? "" : got[i] + " in place of " + want[i];
    }
    checks.due(sentence + call + " leaves all as it was (" + unlike + ")", unlike.isEmpty(), true);
  }

  void end() {
    sentence = "";
    for (int promise = 1; promise <= 32; promise++) {
      due("promise " + promise + " has a test of its edges", quoted.contains("Promise " + promise + ":"), true);
    }
    checks.end();
  }
}
