import java.io.IOException;
import java.lang.reflect.Method;
import java.lang.reflect.Modifier;
import java.net.URL;
import java.net.URLClassLoader;
import java.nio.file.Files;
import java.nio.file.Path;
import java.util.ArrayList;
import java.util.List;
import java.util.regex.Matcher;
import java.util.regex.Pattern;
import javax.tools.ToolProvider;

/** README.md holds as it is written: its examples with their answers, and the commands that it names. */
public final class ReadmeTest {
  private static final Path README = Path.of("README.md");
  private static final Pattern CALL = Pattern.compile("(x\\.\\w+\\(.*\\)); +// (-?\\d+|true|false)(: .*)?");
  private static final Checks T = new Checks();

  private final List<String> members = new ArrayList<>();
  private final List<String> statements = new ArrayList<>();
  private final List<String> commands = new ArrayList<>();

  public static void main(String[] args) throws Exception {
    ReadmeTest readme = new ReadmeTest();
    readme.take(Files.readAllLines(README));
    readme.examples();
    readme.everyCall();
    everyTest();
    readme.everyCommand();
    T.end();
  }

  /** A block of Java is members if it begins with a static one, else statements; other lines set off are commands. */
  private void take(List<String> lines) {
    List<String> block = null;
    for (int i = 0; i < lines.size(); i++) {
      String line = lines.get(i);
      if (line.equals("```java")) {
        block = lines.get(i + 1).startsWith("static ") ? members : statements;
      } else if (line.equals("```")) {
        block = null;
      } else if (block != null) {
        block.add(line);
      } else if (line.startsWith("    ")) {
        commands.add(line.trim());
      }
    }
  }

  private void examples() throws Exception {
    try (Workplace there = new Workplace()) {
      there.write("ReadmeRun.java", source());
      String file = there.main().resolve("ReadmeRun.java").toString();
      int compiled = ToolProvider.getSystemJavaCompiler().run(null, null, null, "-d", there.main().toString(),
          "-cp", System.getProperty("java.class.path"), file);
      T.due("README.md: the examples compile", compiled, 0);
      if (compiled == 0) {
        answers(there.main());
      }
    }
  }

  private static void answers(Path classes) throws Exception {
    try (URLClassLoader loader = new URLClassLoader(new URL[] {classes.toUri().toURL()})) {
      Class<?> run = loader.loadClass("ReadmeRun");
      run.getMethod("asWritten").invoke(null);
      List<?> rows = (List<?>) run.getMethod("answers").invoke(null);
      for (Object row : rows) {
        Object[] parts = (Object[]) row;
        T.due("README.md: " + parts[0] + " (" + parts[1] + " in place of " + parts[2] + ")",
            parts[1].equals(parts[2]), true);
      }
      T.due("README.md: there are examples", rows.isEmpty(), false);
    }
  }

  /** The examples twice: as they are written, and with each answer noted. */
  private String source() {
    StringBuilder out = new StringBuilder("import java.util.*;\npublic final class ReadmeRun {\n");
    out.append(String.join("\n", members));
    out.append("\npublic static void asWritten() {\n").append(String.join("\n", statements)).append("\n}\n");
    out.append("public static List<Object[]> answers() {\nList<Object[]> rows = new ArrayList<>();\n");
    for (String line : statements) {
      out.append(noted(line)).append('\n');
    }
    return out.append("return rows;\n}\n}\n").toString();
  }

  private static String noted(String line) {
    if (!line.startsWith("x.")) {
      return line;
    }
    Matcher call = CALL.matcher(line);
    boolean answered = call.matches();
    T.due("README.md: an answer stands behind " + line, answered, true);
    if (!answered) {
      return "";
    }
    String shown = call.group(1).replace("\\", "\\\\").replace("\"", "\\\"");
    return "rows.add(new Object[] {\"" + shown + "\", " + call.group(1) + ", " + call.group(2) + "});";
  }

  private void everyCall() {
    String shown = String.join("\n", statements) + String.join("\n", members);
    for (Method call : CourtHand.class.getDeclaredMethods()) {
      if (Modifier.isPublic(call.getModifiers())) {
        T.due("README.md shows " + call.getName(), shown.contains("x." + call.getName() + "("), true);
      }
    }
  }

  private static void everyTest() throws IOException {
    String text = Files.readString(README);
    for (String name : Workplace.filesIn("src/test/java", "Test.java")) {
      T.due("README.md names " + name, text.contains("`" + name.replace(".java", "") + "`"), true);
    }
    Matcher named = Pattern.compile("`(\\w+Test|Twin|src/\\S+|\\.ci/run)`").matcher(text);
    while (named.find()) {
      String name = named.group(1);
      Path file = Path.of(name.indexOf('/') < 0 ? "src/test/java/" + name + ".java" : name);
      T.due("README.md names " + file + ", which is there", Files.exists(file), true);
    }
  }

  /** All but .ci/run, which runs this very test; RunTest looks at it. */
  private void everyCommand() throws Exception {
    try (Workplace there = new Workplace()) {
      there.bring("src/main/java/CourtHand.java");
      for (String name : Workplace.filesIn("src/test/java", ".java")) {
        there.bring("src/test/java/" + name);
      }
      for (String name : Workplace.filesIn("../shared/tests", ".java")) {
        there.bring("../shared/tests/" + name);
      }
      for (String command : commands) {
        if (command.equals(".ci/run")) {
          T.due("README.md: .ci/run can be run", Files.isExecutable(Path.of(command)), true);
        } else {
          int code = there.type(there.main(), command);
          T.due("README.md: " + command + " (" + (code == 0 ? "" : there.said()) + ")", code, 0);
        }
      }
      T.due("README.md names .ci/run", commands.contains(".ci/run"), true);
    }
  }
}
