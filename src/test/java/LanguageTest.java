import java.lang.reflect.Constructor;
import java.lang.reflect.Field;
import java.lang.reflect.Method;
import java.lang.reflect.Modifier;
import java.nio.file.Files;
import java.nio.file.Path;
import java.util.Set;
import java.util.TreeSet;
import java.util.regex.Matcher;
import java.util.regex.Pattern;

/** The class's face, and what LANGUAGE.md rules out as far as words and shapes can show it. */
public final class LanguageTest {
  private static final Path SOURCE = Path.of("src/main/java/CourtHand.java");
  private static final Checks T = new Checks();
  private static final String[] FACE = {
    "boolean model(int,int)", "boolean courtier(int,int,int)", "boolean form(int,int,int)",
    "int feed(int,int,int,int,int)", "int law(int)", "int order(int)", "int blots(int)", "int moons(int)",
    "int tried(int,int)", "int courtierIs(int,int)", "int formOf(int,int)", "int modelOf(int)", "int read(int)",
    "int apart(int,int)", "int written(int,int)", "int copied(int,int)", "int another(int,int,int)",
    "int whose(int,int)", "int forge(int,int)", "int alike(int,int)", "int rises(int,int)", "int commands()",
    "int clear(int,int)", "int shape(int,int)", "int like(int,int)", "int toldApart(int,int)", "boolean seed(int)",
    "int keep()", "boolean undo()", "int check(int)", "int count(int)"};

  public static void main(String[] args) throws Exception {
    face();
    insides();
    words(Files.readString(SOURCE));
    T.end();
  }

  private static void face() {
    Set<String> due = new TreeSet<>(Set.of(FACE));
    Set<String> names = new TreeSet<>();
    for (Method m : CourtHand.class.getDeclaredMethods()) {
      if (Modifier.isPublic(m.getModifiers())) {
        names.add(m.getName());
        T.due("in the face: " + shown(m), due.remove(shown(m)), true);
      } else {
        T.due("private: " + m.getName(), Modifier.isPrivate(m.getModifiers()), true);
      }
      T.due("at most seven parameters: " + m.getName(), m.getParameterCount() <= 7, true);
    }
    T.due("missing in the face: " + due, due.size(), 0);
    for (Method m : CourtHand.class.getDeclaredMethods()) {
      boolean twice = Modifier.isPrivate(m.getModifiers()) && names.contains(m.getName());
      T.due("name of a public one: " + m.getName(), twice, false);
    }
    int open = Modifier.PUBLIC | Modifier.FINAL;
    T.due("public and final", CourtHand.class.getModifiers() & open, open);
    T.due("constructors", CourtHand.class.getDeclaredConstructors().length, 1);
    for (Constructor<?> c : CourtHand.class.getDeclaredConstructors()) {
      T.due("public constructor", Modifier.isPublic(c.getModifiers()) && c.getParameterCount() == 0, true);
    }
    for (Field f : CourtHand.class.getDeclaredFields()) {
      boolean constant = f.getName().equals("NONE");
      T.due("field " + f.getName(), constant ? Modifier.isPublic(f.getModifiers()) : Modifier.isPrivate(f.getModifiers()),
          true);
    }
  }

  private static String shown(Method m) {
    StringBuilder out = new StringBuilder(m.getReturnType().getName()).append(' ').append(m.getName()).append('(');
    for (int i = 0; i < m.getParameterCount(); i++) {
      out.append(i > 0 ? "," : "").append(m.getParameterTypes()[i].getName());
    }
    return out.append(')').toString();
  }

  private static void insides() {
    Class<?>[] inside = CourtHand.class.getDeclaredClasses();
    T.due("classes: at most twelve", inside.length < 12, true);
    for (Class<?> c : inside) {
      T.due("static: " + c.getName(), Modifier.isStatic(c.getModifiers()), true);
      T.due("not public: " + c.getName(), Modifier.isPublic(c.getModifiers()), false);
      int fields = 0;
      for (Field f : c.getDeclaredFields()) {
        boolean isStatic = Modifier.isStatic(f.getModifiers());
        fields += isStatic ? 0 : 1;
        T.due("static means final: " + f.getName(), isStatic && !Modifier.isFinal(f.getModifiers()), false);
      }
      T.due("fields of " + c.getName(), fields <= 20, true);
      for (Method m : c.getDeclaredMethods()) {
        T.due("at most seven parameters: " + m.getName(), m.getParameterCount() <= 7, true);
        T.due("not public: " + m.getName(), Modifier.isPublic(m.getModifiers()), false);
      }
    }
  }

  private static void words(String source) {
    String code = source.replaceAll("(?s)/\\*.*?\\*/", "").replaceAll("//[^\n]*", "")
        .replaceAll("'(\\\\.|[^'\\\\])'", "0").replaceAll("\"[^\"\n]*\"", "0");
    String[] banned = {"throw", "throws", "try", "catch", "finally", "synchronized", "assert", "volatile", "native",
      "package", "protected", "instanceof", "Object", "Exception", "Error", "Random", "Thread", "System.out", "var"};
    for (String word : banned) {
      T.due("word " + word, Pattern.compile("\\b" + Pattern.quote(word) + "\\b").matcher(code).find(), false);
    }
    for (String sign : new String[] {"->", "::", "@", "Exact("}) {
      T.due("sign " + sign, code.contains(sign), false);
    }
    Matcher imports = Pattern.compile("import ([^;]+);").matcher(code);
    while (imports.find()) {
      T.due("import " + imports.group(1), imports.group(1).equals("java.util.Arrays"), true);
    }
    // Objects are made in constructors and fields alone: a call of the face must leave no new ones.
    Matcher made = Pattern.compile("(?m)^ {8,}.*\\bnew (Court|Law|Tape|Order|Models|LawReader|int)\\b.*$").matcher(code);
    while (made.find()) {
      String line = made.group().trim();
      T.due("made in a field or a constructor: " + line, line.matches("(private |final )*[\\w\\[\\]]* ?\\w+ = new .*"), true);
    }
  }
}
