import java.util.ArrayList;
import java.util.HashMap;
import java.util.HashSet;
import java.util.List;
import java.util.Map;
import java.util.Set;

/** The text of rules and habits read by descent into trees: slow, and as near to the document's words as can be. */
final class NaiveText {
  static final class Fault extends RuntimeException {
    final int which, place;
    Fault(int which, int place) { this.which = which; this.place = place; }
  }

  interface Facts { int of(String name); }

  static final class Node {
    final String what; final List<Node> parts = new ArrayList<>(); final int number;
    Node(String what, int number, Node... parts) {
      this.what = what; this.number = number;
      for (Node p : parts) this.parts.add(p);
    }
    int value(Facts f) {
      int a = parts.size() > 0 ? parts.get(0).value(f) : 0;
      int b = parts.size() > 1 ? parts.get(1).value(f) : 0;
      switch (what) {
        case "N": return number;
        case "or": return a != 0 || b != 0 ? 1 : 0;
        case "and": return a != 0 && b != 0 ? 1 : 0;
        case "not": return a == 0 ? 1 : 0;
        case "<": return a < b ? 1 : 0;
        case "<=": return a <= b ? 1 : 0;
        case "=": return a == b ? 1 : 0;
        case "<>": return a != b ? 1 : 0;
        case ">=": return a >= b ? 1 : 0;
        case ">": return a > b ? 1 : 0;
        case "+": return a + b;
        case "-": return a - b;
        default: return f.of(what);
      }
    }
  }

  static final class Habit { boolean round; Node e; Set<Integer> by = new HashSet<>(); }

  static final Set<String> RULES = Set.of("hand", "comes", "first", "answers", "seen");
  static final Set<String> NAMES = Set.of("from", "kind", "age", "known", "sum", "many", "mine");
  static final Set<String> COMPARISONS = Set.of("<", "<=", "=", "<>", ">=", ">");

  final Map<Integer, String> rules = new HashMap<>();
  final List<Habit> habits = new ArrayList<>();
  int lines, knots;

  private final String text;
  private int pos, start, depth;
  private String token;

  NaiveText(String text) {
    this.text = text;
    next();
    while (token != null) line();
  }

  private void next() {
    while (pos < text.length() && (text.charAt(pos) == 10 || text.charAt(pos) == 32)) pos++;
    start = pos;
    if (pos == text.length()) { token = null; return; }
    char c = text.charAt(pos);
    String run = c >= 'a' && c <= 'z' ? "abcdefghijklmnopqrstuvwxyz" : c >= '0' && c <= '9' ? "0123456789" : "";
    pos++;
    while (pos < text.length() && run.indexOf(text.charAt(pos)) >= 0) pos++;
    if (pos < text.length() && List.of("<=", ">=", "<>").contains(text.substring(start, pos + 1))) pos++;
    token = text.substring(start, pos);
  }

  private boolean at(String word) { return word.equals(token); }
  private boolean atNumber() { return token != null && Character.isDigit(token.charAt(0)) && token.charAt(0) < 128; }
  private Fault cant() { return new Fault(1, start); }
  private int number(int most) {
    if (new java.math.BigInteger(token).compareTo(java.math.BigInteger.valueOf(most)) > 0) throw new Fault(2, start);
    return Integer.parseInt(new java.math.BigInteger(token).toString());
  }

  private void line() {
    if (at("read")) {
      next();
      if (token == null || !RULES.contains(token)) throw cant();
      String rule = token;
      Set<Integer> ahead = new HashSet<>(rules.keySet());
      next();
      Set<Integer> here = new HashSet<>();
      while (atNumber()) {
        int w = number(5);
        if (ahead.contains(w) || !here.add(w)) throw new Fault(3, start);
        next();
      }
      if (!at(";")) throw cant();
      if (here.isEmpty()) {
        if (!ahead.isEmpty()) throw new Fault(3, start);
        for (int w = 0; w < 6; w++) here.add(w);
      }
      for (int w : here) rules.put(w, rule);
    } else if (at("answer") || at("round")) {
      if (habits.size() == 8) throw new Fault(2, start);
      Habit h = new Habit();
      h.round = at("round");
      next();
      h.e = e();
      if (at("by")) {
        next();
        if (!atNumber()) throw cant();
        while (atNumber()) {
          if (!h.by.add(number(5))) throw new Fault(3, start);
          next();
        }
      } else {
        for (int w = 0; w < 6; w++) h.by.add(w);
      }
      if (!at(";")) throw cant();
      habits.add(h);
    } else {
      throw cant();
    }
    lines++;
    next();
  }

  private void knot() {
    if (++knots > 64) throw new Fault(2, start);
    next();
  }

  private Node e() {
    Node left = a();
    while (at("or")) { knot(); left = new Node("or", 0, left, a()); }
    return left;
  }
  private Node a() {
    Node left = b();
    while (at("and")) { knot(); left = new Node("and", 0, left, b()); }
    return left;
  }
  private Node b() {
    if (at("not")) { knot(); return new Node("not", 0, b()); }
    return c();
  }
  private Node c() {
    Node left = s();
    if (token != null && COMPARISONS.contains(token)) {
      String sign = token;
      knot();
      left = new Node(sign, 0, left, s());
    }
    return left;
  }
  private Node s() {
    Node left = p();
    while (at("+") || at("-")) {
      String sign = token;
      knot();
      left = new Node(sign, 0, left, p());
    }
    return left;
  }
  private Node p() {
    if (atNumber()) {
      int n = number(999);
      knot();
      return new Node("N", n);
    }
    if (token != null && NAMES.contains(token)) {
      String name = token;
      knot();
      return new Node(name, 0);
    }
    if (at("(")) {
      if (depth == 8) throw new Fault(2, start);
      depth++;
      next();
      Node inside = e();
      if (!at(")")) throw cant();
      depth--;
      next();
      return inside;
    }
    throw cant();
  }
}
