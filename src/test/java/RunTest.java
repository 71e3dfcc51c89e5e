import java.io.IOException;

/** What README.md says of .ci/run: which tests it runs, and how it ends. */
public final class RunTest {
  private static final String SHARED = "../shared/tests/";
  private static final String OWN = "src/test/java/";
  private static final Checks T = new Checks();

  public static void main(String[] args) throws Exception {
    allPass();
    ownFails();
    sharedFails();
    ownDoesNotCompile();
    sharedDoesNotCompile();
    noShared();
    T.end();
  }

  /** A test that says its name and ends with that code. */
  private static String test(String name, int code) {
    return "public final class " + name + " {\n  public static void main(String[] args) {\n"
        + "    new CourtHand();\n    System.out.println(\"here is " + name + "\");\n    System.exit(" + code + ");\n  }\n}\n";
  }

  private static Workplace project() throws IOException {
    Workplace there = new Workplace();
    there.bring(".ci/run");
    there.main().resolve(".ci/run").toFile().setExecutable(true);
    there.bring("src/main/java/CourtHand.java");
    return there;
  }

  private static void write(Workplace there, String directory, String name, int code) throws IOException {
    there.write(directory + name + ".java", test(name, code));
  }

  private static void ends(String project, Workplace there, int code, String... words) throws Exception {
    // From another directory than the project's: it finds its own way.
    T.due(project + ": exit code", there.type(there.main().getParent(), "main/.ci/run"), code);
    for (String word : words) {
      T.due(project + ": '" + word + "' in what it says:\n" + there.said(), there.said().contains(word), true);
    }
  }

  private static void allPass() throws Exception {
    try (Workplace there = project()) {
      write(there, OWN, "FirstTest", 0);
      write(there, OWN, "OtherTest", 0);
      write(there, SHARED, "Runs", 0);
      write(there, SHARED, "MoreRuns", 0);
      ends("all pass", there, 0, "here is FirstTest", "here is OtherTest", "here is Runs", "here is MoreRuns",
          "4 passed, 0 failed");
    }
  }

  private static void ownFails() throws Exception {
    try (Workplace there = project()) {
      write(there, OWN, "FirstTest", 1);
      write(there, OWN, "OtherTest", 0);
      write(there, SHARED, "Runs", 0);
      ends("one of its own fails", there, 1, "FAILED: FirstTest", "here is OtherTest", "here is Runs",
          "2 passed, 1 failed");
    }
  }

  private static void sharedFails() throws Exception {
    try (Workplace there = project()) {
      write(there, OWN, "FirstTest", 0);
      write(there, SHARED, "MoreRuns", 1);
      write(there, SHARED, "Runs", 0);
      ends("a shared one fails", there, 1, "FAILED: MoreRuns", "here is Runs", "2 passed, 1 failed");
    }
  }

  private static void ownDoesNotCompile() throws Exception {
    try (Workplace there = project()) {
      there.write(OWN + "FirstTest.java", "no Java");
      write(there, SHARED, "Runs", 0);
      ends("one of its own does not compile", there, 1);
    }
  }

  private static void sharedDoesNotCompile() throws Exception {
    try (Workplace there = project()) {
      write(there, OWN, "FirstTest", 0);
      there.write(SHARED + "MoreRuns.java", "no Java");
      write(there, SHARED, "Runs", 0);
      ends("a shared one does not compile", there, 1, "MoreRuns", "here is Runs", "2 passed, 1 failed");
    }
  }

  private static void noShared() throws Exception {
    try (Workplace there = project()) {
      write(there, OWN, "FirstTest", 0);
      ends("there is no shared test", there, 1);
    }
  }
}
