import java.util.ArrayList;
import java.util.Arrays;
import java.util.List;
import java.util.Map;
import java.util.TreeMap;

/** A second reading of the document, slow and plain, written apart from the class that it is held against. */
final class Twin {
  private static final class Fault extends RuntimeException {
    private static final long serialVersionUID = 1L;
    final int answer;

    Fault(int number, int place) {
      answer = -1000 * number - place;
    }
  }

  private static final class Refused extends RuntimeException {
    private static final long serialVersionUID = 1L;
  }

  private interface Value {
    int of(Map<Character, Integer> names);
  }

  private interface Cond {
    boolean holds(Map<Character, Integer> names);
  }

  private record Rule(char kind, Value value, Cond cond) {
    boolean applies(Map<Character, Integer> names) {
      try {
        return cond.holds(names);
      } catch (Refused r) {
        return false;
      }
    }

    int amount(Map<Character, Integer> names) {
      try {
        return value.of(names);
      } catch (Refused r) {
        return 0;
      }
    }
  }

  private static final class Person {
    int age;
    int ink;
    final Integer[] own = new Integer[8];

    Person twin() {
      Person p = new Person();
      p.age = age;
      p.ink = ink;
      System.arraycopy(own, 0, p.own, 0, 8);
      return p;
    }
  }

  private static final class State {
    TreeMap<Integer, Person> people = new TreeMap<>();
    int moon = 0;
    int x = 1;

    State twin() {
      State s = new State();
      people.forEach((c, p) -> s.people.put(c, p.twin()));
      s.moon = moon;
      s.x = x;
      return s;
    }
  }

  private final Integer[] models = new Integer[8];
  private State now = new State();
  private State kept = null;
  private List<Rule> rules = new ArrayList<>();
  private List<Integer> order = new ArrayList<>();
  private final List<Integer> tape = new ArrayList<>();

  // ---- texts

  private String text(int n) {
    StringBuilder out = new StringBuilder();
    for (int i = 0; i < n; i++) {
      out.append((char) (int) tape.get(i));
    }
    tape.clear();
    return out.toString();
  }

  private static char at(String s, int i) {
    return i < s.length() ? s.charAt(i) : (char) 999;
  }

  private static final class LawText {
    final String s;
    int i = 0;
    int open = 0;

    LawText(String s) {
      this.s = s;
    }

    char peek() {
      return at(s, i);
    }

    void eat(char c) {
      if (peek() != c) {
        throw new Fault(1, i);
      }
      i++;
    }

    void open(char c) {
      if (peek() != c) {
        throw new Fault(1, i);
      }
      if (open == 6) {
        throw new Fault(5, i);
      }
      open++;
      i++;
    }

    void shut(char c) {
      eat(c);
      open--;
    }

    List<Rule> all() {
      List<Rule> out = new ArrayList<>();
      while (true) {
        char kind = peek();
        if ("pwix".indexOf(kind) < 0) {
          throw new Fault(1, i);
        }
        if (out.size() == 16) {
          throw new Fault(4, i);
        }
        i++;
        Value v = kind == 'x' ? names -> 0 : sum();
        open('(');
        Cond c = any();
        shut(')');
        out.add(new Rule(kind, v, c));
        if (i == s.length()) {
          return out;
        }
        eat(';');
      }
    }

    Cond any() {
      Cond left = every();
      while (peek() == '|') {
        i++;
        Cond a = left;
        Cond b = every();
        left = names -> a.holds(names) || b.holds(names);
      }
      return left;
    }

    Cond every() {
      Cond left = test();
      while (peek() == '&') {
        i++;
        Cond a = left;
        Cond b = test();
        left = names -> a.holds(names) && b.holds(names);
      }
      return left;
    }

    Cond test() {
      if (peek() == '!') {
        open('!');
        Cond inner = test();
        open--;
        return names -> !inner.holds(names);
      }
      if (peek() == '(') {
        open('(');
        Cond inner = any();
        shut(')');
        return inner;
      }
      Value a = sum();
      char how = peek();
      if ("<>=".indexOf(how) < 0) {
        throw new Fault(1, i);
      }
      i++;
      Value b = sum();
      return names -> {
        int l = a.of(names);
        int r = b.of(names);
        return how == '<' ? l < r : how == '>' ? l > r : l == r;
      };
    }

    Value sum() {
      Value left = product();
      while (peek() == '+' || peek() == '-') {
        boolean plus = peek() == '+';
        i++;
        Value a = left;
        Value b = product();
        left = names -> plus ? a.of(names) + b.of(names) : a.of(names) - b.of(names);
      }
      return left;
    }

    Value product() {
      Value left = factor();
      while ("*/%".indexOf(peek()) >= 0) {
        char how = peek();
        i++;
        Value a = left;
        Value b = factor();
        left = names -> {
          int l = a.of(names);
          int r = b.of(names);
          if (how == '*') {
            return l * r;
          }
          if (r == 0) {
            throw new Refused();
          }
          return how == '/' ? l / r : l % r;
        };
      }
      return left;
    }

    Value factor() {
      char c = peek();
      if (c == '[') {
        open('[');
        Value inner = sum();
        shut(']');
        return inner;
      }
      if ("calgskfdm".indexOf(c) >= 0) {
        i++;
        return names -> names.get(c);
      }
      if ("0123456789".indexOf(c) < 0) {
        throw new Fault(1, i);
      }
      int from = i;
      while ("0123456789".indexOf(peek()) >= 0) {
        if (i - from == 5) {
          throw new Fault(2, i);
        }
        i++;
      }
      int number = Integer.parseInt(s.substring(from, i));
      return names -> number;
    }
  }

  int law(int n) {
    if (n < 1 || n > 240 || n > tape.size()) {
      return -1;
    }
    try {
      rules = new LawText(text(n)).all();
      return rules.size();
    } catch (Fault f) {
      return f.answer;
    }
  }

  /** The order inside one bracket, or outside all: where it ends; letters go behind out. */
  private int orderFrom(String s, int i, int depth, List<Integer> out) {
    int size = out.size();
    while (true) {
      char c = at(s, i);
      int from = i;
      int before = out.size();
      if (c >= 'A' && c <= 'H') {
        out.add(c - 'A');
        i++;
      } else if (c == '(') {
        if (depth == 2) {
          throw new Fault(5, i);
        }
        i = orderFrom(s, i + 1, depth + 1, out);
        if (at(s, i) != ')') {
          throw new Fault(1, i);
        }
        i++;
      } else if (out.size() > size) {
        return i;
      } else {
        throw new Fault(1, i);
      }
      char d = at(s, i);
      if (d >= '2' && d <= '9') {
        List<Integer> part = new ArrayList<>(out.subList(before, out.size()));
        for (int t = 1; t < d - '0'; t++) {
          out.addAll(part);
        }
        i++;
      }
      if (out.size() > 60) {
        throw new Fault(6, from);
      }
    }
  }

  int order(int n) {
    if (n < 1 || n > 60 || n > tape.size()) {
      return -1;
    }
    try {
      String s = text(n);
      List<Integer> out = new ArrayList<>();
      int end = orderFrom(s, 0, 0, out);
      if (end < s.length()) {
        throw new Fault(1, end);
      }
      order = out;
      return out.size();
    } catch (Fault f) {
      return f.answer;
    }
  }

  int blots(int n) {
    if (n < 1 || n > 120 || n > tape.size()) {
      return -1;
    }
    String s = text(n);
    State then = now.twin();
    try {
      int lines = 0;
      int i = 0;
      while (true) {
        char digit = at(s, i);
        if (digit < '0' || digit > '9') {
          throw new Fault(1, i);
        }
        if (lines == 20) {
          throw new Fault(4, i);
        }
        Person p = then.people.get(digit - '0');
        if (p == null) {
          throw new Fault(7, i);
        }
        i++;
        char letter = at(s, i);
        if (letter < 'A' || letter > 'H') {
          throw new Fault(1, i);
        }
        int k = letter - 'A';
        if (models[k] == null) {
          throw new Fault(7, i);
        }
        i++;
        int grid = own(p, k);
        int out = 0;
        char sign = at(s, i);
        if ("!~<>|".indexOf(sign) >= 0) {
          i++;
          for (int y = 0; y < 5; y++) {
            for (int x = 0; x < 5; x++) {
              boolean black = sign == '~' ? !dot(grid, x, y)
                  : sign == '<' ? dot(grid, x + 1, y)
                  : sign == '>' ? dot(grid, x - 1, y)
                  : sign == '|' && dot(grid, 4 - x, y);
              out |= black ? 1 << 5 * y + x : 0;
            }
          }
        } else {
          int from = i;
          out = grid;
          while (at(s, i) >= 'a' && at(s, i) <= 'y') {
            out ^= 1 << at(s, i) - 'a';
            i++;
          }
          if (i == from) {
            throw new Fault(1, i);
          }
        }
        p.own[k] = out;
        lines++;
        if (i == s.length()) {
          now = then;
          return lines;
        }
        if (at(s, i) != ';') {
          throw new Fault(1, i);
        }
        i++;
      }
    } catch (Fault f) {
      return f.answer;
    }
  }

  // ---- grids

  private static boolean fits(int grid) {
    return grid >= 0 && grid < 1 << 25;
  }

  private static boolean dot(int grid, int x, int y) {
    return x >= 0 && x < 5 && y >= 0 && y < 5 && (grid & 1 << 5 * y + x) != 0;
  }

  private static int far(int a, int b) {
    int out = 0;
    for (int i = 0; i < 25; i++) {
      out += (a >> i & 1) != (b >> i & 1) ? 1 : 0;
    }
    return out;
  }

  private static int black(int grid) {
    return far(grid, 0);
  }

  /** Parts that hang together, each a list of dots. */
  private static List<List<Integer>> parts(int grid, boolean colour, boolean corners) {
    List<List<Integer>> out = new ArrayList<>();
    boolean[] seen = new boolean[25];
    for (int i = 0; i < 25; i++) {
      if (!seen[i] && dot(grid, i % 5, i / 5) == colour) {
        List<Integer> part = new ArrayList<>();
        part.add(i);
        seen[i] = true;
        for (int at = 0; at < part.size(); at++) {
          int x = part.get(at) % 5;
          int y = part.get(at) / 5;
          for (int dy = -1; dy <= 1; dy++) {
            for (int dx = -1; dx <= 1; dx++) {
              int nx = x + dx;
              int ny = y + dy;
              boolean in = nx >= 0 && nx < 5 && ny >= 0 && ny < 5 && (corners || dx == 0 || dy == 0);
              if (in && !seen[5 * ny + nx] && dot(grid, nx, ny) == colour) {
                seen[5 * ny + nx] = true;
                part.add(5 * ny + nx);
              }
            }
          }
        }
        out.add(part);
      }
    }
    return out;
  }

  private static int mirror(int grid) {
    int out = 0;
    for (int i = 0; i < 25; i++) {
      out |= dot(grid, 4 - i % 5, i / 5) ? 1 << i : 0;
    }
    return out;
  }

  private static int turn(int grid) {
    int out = 0;
    for (int i = 0; i < 25; i++) {
      // The right column comes from above: (4, y) from (y, 0).
      out |= dot(grid, i / 5, 4 - i % 5) ? 1 << i : 0;
    }
    return out;
  }

  int shape(int grid, int what) {
    if (!fits(grid)) {
      return -1;
    }
    switch (what) {
      case 0:
        return (int) parts(grid, false, false).stream()
            .filter(p -> p.stream().noneMatch(i -> i % 5 == 0 || i % 5 == 4 || i < 5 || i >= 20)).count();
      case 1:
        return parts(grid, true, true).size();
      case 2:
        return cross(grid);
      case 3:
        return black(grid);
      case 4:
        return mirror(grid);
      case 5:
        return turn(grid);
      case 6:
        int sum = 0;
        for (List<Integer> part : parts(grid, true, false)) {
          int odd = 0;
          for (int i : part) {
            int x = i % 5;
            int y = i / 5;
            int many = (dot(grid, x - 1, y) ? 1 : 0) + (dot(grid, x + 1, y) ? 1 : 0)
                + (dot(grid, x, y - 1) ? 1 : 0) + (dot(grid, x, y + 1) ? 1 : 0);
            odd += many % 2;
          }
          sum += Math.max(1, odd / 2);
        }
        return grid == 0 ? 0 : sum - 1;
      default:
        return -1;
    }
  }

  private static int cross(int grid) {
    int best = -2;
    for (int i = 0; i < 25; i++) {
      int x = i % 5;
      int y = i / 5;
      int n = 0;
      if (dot(grid, x, y)) {
        while (dot(grid, x - n - 1, y) && dot(grid, x + n + 1, y) && dot(grid, x, y - n - 1) && dot(grid, x, y + n + 1)) {
          n++;
        }
        best = Math.max(best, n);
      }
    }
    return best;
  }

  int like(int grid, int other) {
    if (!fits(grid) || !fits(other)) {
      return -1;
    }
    for (int how = 0; how < 8; how++) {
      int g = how < 4 ? grid : mirror(grid);
      for (int t = 0; t < how % 4; t++) {
        g = turn(g);
      }
      if (g == other) {
        return how;
      }
    }
    return -2;
  }

  int apart(int a, int b) {
    return fits(a) && fits(b) ? far(a, b) : -1;
  }

  // ---- the court

  private int own(Person p, int k) {
    return p.own[k] != null ? p.own[k] : models[k];
  }

  private int asLetter(int grid) {
    int least = 99;
    for (Integer m : models) {
      least = m == null ? least : Math.min(least, far(grid, m));
    }
    int who = -2;
    int many = 0;
    for (int k = 0; k < 8; k++) {
      if (models[k] != null && far(grid, models[k]) == least) {
        who = k;
        many++;
      }
    }
    return many == 1 ? who : -2;
  }

  private int faults(Person p) {
    int sum = 0;
    for (int k = 0; k < 8; k++) {
      sum += models[k] == null ? 0 : far(own(p, k), models[k]);
    }
    return sum;
  }

  private List<Integer> ranking(State s) {
    List<Integer> out = new ArrayList<>(s.people.keySet());
    out.sort((a, b) -> {
      Person p = s.people.get(a);
      Person q = s.people.get(b);
      if (faults(p) != faults(q)) {
        return faults(p) - faults(q);
      }
      return p.age != q.age ? q.age - p.age : a - b;
    });
    return out;
  }

  private int draw(State s) {
    s.x = (int) ((25173L * s.x + 13849) % 65536);
    return s.x % 10;
  }

  private int amount(char kind, int most, Map<Character, Integer> names) {
    for (Rule r : rules) {
      if (r.kind == kind && r.applies(names)) {
        int v = r.amount(names);
        return v < 0 ? 0 : v > most ? most : v;
      }
    }
    return 0;
  }

  /** Mended, spoiled, used. */
  private int[] pass(State s, int n) {
    int[] out = new int[3];
    for (int i = 0; i < n && s.moon < 9999; i++) {
      List<Integer> rank = ranking(s);
      for (int c : s.people.keySet()) {
        Person p = s.people.get(c);
        p.ink = Math.min(9999, p.ink + amount('i', 99, names(s, c, rank, -1)));
        for (int k = 0; k < 8; k++) {
          if (models[k] != null) {
            practise(s, c, k, rank, out);
          }
        }
      }
      s.moon++;
      if (s.moon % 12 == 0) {
        s.people.values().forEach(p -> p.age = Math.min(99, p.age + 1));
      }
    }
    return out;
  }

  private Map<Character, Integer> names(State s, int c, List<Integer> rank, int k) {
    Person p = s.people.get(c);
    Map<Character, Integer> m = new TreeMap<>();
    m.put('c', c);
    m.put('a', p.age);
    m.put('l', p.ink);
    m.put('g', rank.indexOf(c));
    m.put('s', faults(p));
    m.put('k', Math.max(0, k));
    m.put('f', k < 0 ? 0 : far(own(p, k), models[k]));
    m.put('d', k < 0 ? 0 : black(own(p, k)));
    m.put('m', s.moon % 12);
    return m;
  }

  private void practise(State s, int c, int k, List<Integer> rank, int[] out) {
    Person p = s.people.get(c);
    Map<Character, Integer> names = names(s, c, rank, k);
    int mends = amount('p', 10, names);
    int spoils = amount('w', 10, names);
    boolean idle = rules.stream().anyMatch(r -> r.kind == 'x' && r.applies(names));
    int dots = black(own(p, k));
    if (idle || p.ink < dots) {
      return;
    }
    p.ink -= dots;
    out[2] += dots;
    if (draw(s) < mends) {
      for (int i = 0; i < 25; i++) {
        if ((own(p, k) >> i & 1) != (models[k] >> i & 1)) {
          p.own[k] = own(p, k) ^ 1 << i;
          out[0]++;
          break;
        }
      }
    }
    if (draw(s) < spoils) {
      int first = draw(s);
      int second = draw(s);
      p.own[k] = own(p, k) ^ 1 << (10 * first + second) % 25;
      out[1]++;
    }
  }

  // ---- the face

  private boolean isLetter(int k) {
    return k >= 0 && k < 8 && models[k] != null;
  }

  boolean model(int k, int grid) {
    if (k < 0 || k > 7 || !fits(grid)) {
      return false;
    }
    models[k] = grid;
    return true;
  }

  boolean courtier(int c, int age, int ink) {
    if (c < 0 || c > 9 || age < 0 || age > 99 || ink < 0 || ink > 9999) {
      return false;
    }
    Person p = new Person();
    p.age = age;
    p.ink = ink;
    now.people.put(c, p);
    return true;
  }

  boolean form(int c, int k, int grid) {
    if (!now.people.containsKey(c) || !isLetter(k) || !fits(grid)) {
      return false;
    }
    now.people.get(c).own[k] = grid;
    return true;
  }

  int feed(int... words) {
    if (tape.size() + 20 > 260) {
      return -1;
    }
    for (int w : words) {
      tape.addAll(Arrays.asList(w >>> 24, w >>> 16 & 255, w >>> 8 & 255, w & 255));
    }
    return tape.size();
  }

  int moons(int n) {
    return n < 1 || n > 60 ? -1 : pass(now, n)[0];
  }

  int tried(int n, int what) {
    if (n < 1 || n > 60 || what < 0 || what > 3 && what < 10 || what > 39) {
      return -1;
    }
    if (what >= 10 && !now.people.containsKey(what % 10)) {
      return -1;
    }
    State s = now.twin();
    int[] came = pass(s, n);
    if (what < 3) {
      return came[what];
    }
    List<Integer> rank = ranking(s);
    if (what == 3) {
      return rank.isEmpty() ? -2 : rank.get(0);
    }
    Person p = s.people.get(what % 10);
    return what < 20 ? faults(p) : what < 30 ? rank.indexOf(what % 10) : p.ink;
  }

  int courtierIs(int c, int what) {
    Person p = now.people.get(c);
    if (p == null) {
      return -1;
    }
    int meant = 0;
    int not = 0;
    for (int k = 0; k < 8; k++) {
      if (models[k] != null) {
        int as = asLetter(own(p, k));
        meant += as == k ? 1 : 0;
        not += as == -2 ? 1 : 0;
      }
    }
    return switch (what) {
      case 0 -> p.age;
      case 1 -> p.ink;
      case 2 -> faults(p);
      case 3 -> ranking(now).indexOf(c);
      case 4 -> meant;
      case 5 -> not;
      default -> -1;
    };
  }

  int formOf(int c, int k) {
    return now.people.containsKey(c) && isLetter(k) ? own(now.people.get(c), k) : -1;
  }

  int modelOf(int k) {
    return isLetter(k) ? models[k] : -1;
  }

  int read(int grid) {
    return fits(grid) ? asLetter(grid) : -1;
  }

  int written(int c, int what) {
    Person p = now.people.get(c);
    if (p == null || what < 0 || what > 4) {
      return -1;
    }
    int[] sums = new int[5];
    int ink = p.ink;
    boolean ended = false;
    for (int k : order) {
      if (models[k] == null) {
        ended = true;
        continue;
      }
      int grid = own(p, k);
      int as = asLetter(grid);
      sums[as == k ? 0 : as == -2 ? 2 : 1]++;
      sums[3] += black(grid);
      ended |= ink < black(grid);
      if (!ended) {
        ink -= black(grid);
        sums[4]++;
      }
    }
    return sums[what];
  }

  int copied(int n, int what) {
    if (n < 1 || n > 12 || n > tape.size() || what < 0 || what > 59 && what != 100 && what != 101) {
      return -1;
    }
    String who = text(n);
    List<Integer> sheet = new ArrayList<>(order);
    for (char c : who.toCharArray()) {
      if (!now.people.containsKey((int) c)) {
        return -2;
      }
    }
    for (char c : who.toCharArray()) {
      List<Integer> next = new ArrayList<>();
      for (int k : sheet) {
        int as = models[k] == null ? -2 : asLetter(own(now.people.get((int) c), k));
        if (as >= 0) {
          next.add(as);
        }
      }
      sheet = next;
    }
    if (what == 100) {
      return sheet.size();
    }
    if (what == 101) {
      int same = 0;
      for (int i = 0; i < sheet.size(); i++) {
        same += sheet.get(i).equals(order.get(i)) ? 1 : 0;
      }
      return same;
    }
    return what < sheet.size() ? sheet.get(what) : -4;
  }

  int another(int grid, int k, int what) {
    if (!fits(grid) || !isLetter(k) || what < 0 || what > 1) {
      return -1;
    }
    int best = Integer.MAX_VALUE;
    int many = 4;
    for (int a = 0; a < 25; a++) {
      for (int b = a; b < 25; b++) {
        for (int c = b; c < 25; c++) {
          // One dot three times is that dot alone; a = b leaves c alone, a = c can't be but for a = b = c.
          int[] masks = {0, 1 << a, 1 << a | 1 << b, 1 << a | 1 << b | 1 << c};
          for (int m : masks) {
            boolean better = black(m) < many || black(m) == many && m < best;
            if (better && asLetter(grid ^ m) == k) {
              best = m;
              many = black(m);
            }
          }
        }
      }
    }
    return many > 3 ? -2 : what == 0 ? many : best;
  }

  int whose(int letters, int what) {
    int n = 0;
    for (int i = 0; i < 32; i++) {
      if ((letters >>> i & 1) == 1) {
        n++;
        if (!isLetter(i)) {
          return -1;
        }
      }
    }
    if (n == 0 || what < 0 || what > 2 || tape.size() < 4 * n) {
      return -1;
    }
    String bytes = text(4 * n);
    if (now.people.isEmpty()) {
      return -2;
    }
    List<Integer> grids = new ArrayList<>();
    for (int i = 0; i < n; i++) {
      long g = 0;
      for (int j = 0; j < 4; j++) {
        g = g * 256 + bytes.charAt(4 * i + j);
      }
      if (g > 33554431) {
        return -3;
      }
      grids.add((int) g);
    }
    List<int[]> found = new ArrayList<>();
    now.people.forEach((c, p) -> {
      int sum = 0;
      int i = 0;
      for (int k = 0; k < 8; k++) {
        if ((letters >> k & 1) == 1) {
          sum += far(own(p, k), grids.get(i++));
        }
      }
      found.add(new int[] {sum, c});
    });
    found.sort((a, b) -> a[0] != b[0] ? a[0] - b[0] : a[1] - b[1]);
    if (what == 2) {
      return found.size() < 2 ? -2 : found.get(1)[0] - found.get(0)[0];
    }
    return found.get(0)[1 - what];
  }

  private int hands(int c, int d) {
    int sum = 0;
    for (int k = 0; k < 8; k++) {
      sum += models[k] == null ? 0 : far(own(now.people.get(c), k), own(now.people.get(d), k));
    }
    return sum;
  }

  int forge(int c, int of) {
    return c == of || !now.people.containsKey(c) || !now.people.containsKey(of) ? -1 : hands(c, of);
  }

  int alike(int dots, int what) {
    if (dots < 0 || dots > 200 || what != 100 && !now.people.containsKey(what)) {
      return -1;
    }
    int[] group = new int[10];
    for (int c : now.people.keySet()) {
      group[c] = c;
    }
    for (int c : now.people.keySet()) {
      for (int d : now.people.keySet()) {
        if (hands(c, d) <= dots) {
          int from = group[c];
          int to = group[d];
          for (int e : now.people.keySet()) {
            group[e] = group[e] == from ? to : group[e];
          }
        }
      }
    }
    if (what == 100) {
      return (int) now.people.keySet().stream().map(c -> group[c]).distinct().count();
    }
    return now.people.keySet().stream().filter(c -> group[c] == group[what]).mapToInt(c -> 1 << c).sum();
  }

  int rises(int n, int what) {
    if (n < 1 || n > 60 || what < 0 || what > 1) {
      return -1;
    }
    State s = now.twin();
    pass(s, n);
    List<Integer> before = ranking(now);
    List<Integer> after = ranking(s);
    int who = -2;
    int most = 0;
    for (int c : now.people.keySet()) {
      int gain = before.indexOf(c) - after.indexOf(c);
      if (gain > most) {
        most = gain;
        who = c;
      }
    }
    return what == 0 ? who : most;
  }

  int commands() {
    return now.people.isEmpty() ? -2 : ranking(now).get(0);
  }

  int clear(int c, int what) {
    Person p = now.people.get(c);
    if (p == null || what < 0 || what > 2) {
      return -1;
    }
    int[] best = null;
    for (int k = 0; k < 8; k++) {
      for (int j = k + 1; j < 8; j++) {
        if (models[k] != null && models[j] != null) {
          int[] found = {k, j, far(own(p, k), own(p, j))};
          best = best == null || found[2] < best[2] ? found : best;
        }
      }
    }
    return best == null ? -2 : best[what];
  }

  int toldApart(int k, int what) {
    if (k < 2 || k > 8 || what < 0 || what > 1) {
      return -1;
    }
    int most = -2;
    int which = -2;
    for (int bits = 255; bits > 0; bits--) {
      int least = 99;
      boolean all = Integer.bitCount(bits) == k;
      for (int i = 0; i < 8; i++) {
        for (int j = 0; j < i; j++) {
          if ((bits >> i & 1) == 1 && (bits >> j & 1) == 1) {
            all &= models[i] != null && models[j] != null;
            least = all ? Math.min(least, far(models[i], models[j])) : least;
          }
        }
      }
      if (all && least >= most) {
        most = least;
        which = bits;
      }
    }
    return what == 0 ? most : which;
  }

  boolean seed(int x) {
    if (x < 0 || x > 65535) {
      return false;
    }
    now.x = x;
    return true;
  }

  int keep() {
    kept = now.twin();
    return now.moon;
  }

  boolean undo() {
    if (kept == null) {
      return false;
    }
    now = kept.twin();
    return true;
  }

  int check(int n) {
    if (n < 0 || n > 10 || n > tape.size()) {
      return -2;
    }
    String s = text(n);
    for (int c = 0; c < n; c++) {
      int due = now.people.containsKey(c) ? faults(now.people.get(c)) : 0;
      if (s.charAt(c) != due) {
        return c;
      }
    }
    return -1;
  }

  int count(int what) {
    int told = now.people.keySet().stream().mapToInt(c -> 1 << c).sum();
    int letters = 0;
    for (int k = 0; k < 8; k++) {
      letters += models[k] != null ? 1 << k : 0;
    }
    return switch (what) {
      case 0 -> now.moon;
      case 1 -> told;
      case 2 -> letters;
      case 3 -> order.size();
      case 4 -> rules.size();
      case 5 -> tape.size();
      case 6 -> now.x;
      default -> what >= 100 && what < 100 + order.size() ? order.get(what - 100) : -1;
    };
  }
}
