import java.util.ArrayList;
import java.util.Arrays;
import java.util.HashSet;
import java.util.List;
import java.util.Set;
import java.util.TreeSet;

/** The whole republic kept as rows of events and worked out anew at each call, to hold the program against. */
final class NaiveRepublic {
  static final int NONE = -1;

  static final class Letter {
    int writer, day, kind, to; final List<Integer> answers = new ArrayList<>();
    Set<Integer> known = new TreeSet<>(); boolean burnt;
    final Set<Integer> past = new TreeSet<>(); // filled from `before`, so that it isn't worked out too often
  }
  static final class Copy { int letter, from, to, day, state; }
  static final class Event { int day, letter; boolean wrote; Event(int d, int l, boolean w) { day = d; letter = l; wrote = w; } }

  int today;
  final int[][] way = new int[6][6];
  final List<Letter> letters = new ArrayList<>();
  final List<Copy> copies = new ArrayList<>();
  final List<List<Event>> events = new ArrayList<>();
  final List<List<Integer>> desk = new ArrayList<>();
  final List<int[]> told = new ArrayList<>();
  final List<Integer> tape = new ArrayList<>();
  NaiveText text = new NaiveText("");
  int fault = 0, place = NONE;
  int half, splitFrom, splitTo;

  NaiveRepublic() {
    for (int[] row : way) Arrays.fill(row, 5);
    for (int w = 0; w < 6; w++) { events.add(new ArrayList<>()); desk.add(new ArrayList<>()); }
  }

  boolean w(int x) { return 0 <= x && x <= 5; }
  boolean l(int x) { return 0 <= x && x < letters.size(); }
  boolean two(int a, int b) { return l(a) && l(b) && a != b; }
  boolean has(int bits, int i) { return (bits & (1 << i)) != 0; }

  int feed(int... five) {
    if (tape.size() + 20 > 400) return NONE;
    for (int x : five) for (int k = 3; k >= 0; k--) tape.add((x >>> 8 * k) & 255);
    return tape.size();
  }
  int text(int n) {
    if (n < 0 || n > tape.size()) return -2;
    StringBuilder s = new StringBuilder();
    for (int k = 0; k < n; k++) s.append((char) (int) tape.get(k));
    tape.clear();
    try {
      text = new NaiveText(s.toString());
      fault = 0; place = NONE;
      return text.lines;
    } catch (NaiveText.Fault f) {
      fault = f.which; place = f.place;
      return NONE;
    }
  }
  int fault(int what) { return what == 0 ? fault : what == 1 ? place : NONE; }
  boolean way(int a, int b, int d) {
    if (!w(a) || !w(b) || a == b || d < 1 || d > 30) return false;
    way[a][b] = way[b][a] = d;
    return true;
  }
  Set<Integer> known(int writer) {
    Set<Integer> s = new TreeSet<>();
    for (Event e : events.get(writer)) s.add(e.letter);
    return s;
  }
  boolean hasRead(int writer, int letter) {
    for (Event e : events.get(writer)) if (e.letter == letter && !e.wrote) return true;
    return false;
  }
  int write(int writer, int to, int kind, int one, int other) {
    if (!w(writer) || kind < 0 || kind > 2 || to <= 0 || to > 63 || has(to, writer)) return NONE;
    if (one != NONE && (!l(one) || !known(writer).contains(one))) return NONE;
    if (other != NONE && (!l(other) || !known(writer).contains(other))) return NONE;
    if (one == NONE && other != NONE || one != NONE && one == other) return NONE;
    if (kind == 2 && (one == NONE || other != NONE || letters.get(one).writer != writer)) return NONE;
    return post(writer, to, kind, one, other);
  }
  int post(int writer, int to, int kind, int one, int other) {
    if (letters.size() == 30 || copies.size() + Integer.bitCount(to) > 150) return NONE;
    Letter x = new Letter();
    x.writer = writer; x.day = today; x.kind = kind; x.to = to; x.known = known(writer);
    if (one != NONE) x.answers.add(one);
    if (other != NONE) x.answers.add(other);
    letters.add(x);
    int n = letters.size() - 1;
    for (int a = 0; a < n; a++) if (isBefore(a, n)) x.past.add(a);
    events.get(writer).add(new Event(today, n, true));
    for (int v = 0; v < 6; v++) if (has(to, v)) copy(n, writer, v);
    return n;
  }
  int copy(int letter, int from, int to) {
    Copy c = new Copy();
    c.letter = letter; c.from = from; c.to = to; c.day = through(from, to, today + way[from][to]);
    copies.add(c);
    return copies.size() - 1;
  }
  int through(int from, int to, int day) {
    if (half != 0 && has(half, from) != has(half, to) && splitFrom <= day && day <= splitTo) return splitTo + 1;
    return day;
  }
  boolean underWay(int c) { return 0 <= c && c < copies.size() && copies.get(c).state == 0; }
  int late(int c, int days) {
    if (!underWay(c) || days < 1 || days > 99) return NONE;
    Copy x = copies.get(c);
    int day = through(x.from, x.to, x.day + days);
    if (day > 999) return NONE;
    return x.day = day;
  }
  boolean lose(int c) {
    if (!underWay(c)) return false;
    copies.get(c).state = 2;
    return true;
  }
  int again(int letter, int from, int to) {
    if (!l(letter) || !w(from) || !w(to) || from == to || copies.size() == 150) return NONE;
    if (!known(from).contains(letter)) return NONE;
    return copy(letter, from, to);
  }
  boolean split(int h, int from, int to) {
    if (h < 0 || h > 63 || from < 0 || from > 998 || to < 0 || to > 998 || from > to) return false;
    half = h; splitFrom = from; splitTo = to;
    return true;
  }
  int days(int n) {
    if (n < 0 || n > 99 || today + n > 999) return NONE;
    for (; n > 0; n--) {
      today++;
      for (Copy c : copies) {
        if (c.state == 0 && c.day == today) {
          c.state = 1;
          if (!desk.get(c.to).contains(c.letter) && !known(c.to).contains(c.letter)) desk.get(c.to).add(c.letter);
        }
      }
      for (int v = 0; v < 6; v++) {
        Integer next;
        do {
          next = null;
          for (Integer x : desk.get(v)) if (lets(v, x)) { next = x; break; }
          if (next != null) takes(v, next);
        } while (next != null);
      }
    }
    return today;
  }
  String rule(int v) { return text.rules.getOrDefault(v, "comes"); }
  boolean lets(int v, int x) { return !rule(v).equals("hand") && waitsFor(v, x).isEmpty(); }
  Set<Integer> waitsFor(int v, int x) {
    Set<Integer> s = new TreeSet<>();
    Letter held = letters.get(x);
    for (int y = 0; y < letters.size(); y++) {
      if (!has(letters.get(y).to, v) || hasRead(v, y)) continue;
      boolean looked = false;
      if (rule(v).equals("first")) looked = letters.get(y).writer == held.writer && y < x;
      if (rule(v).equals("answers")) looked = held.answers.contains(y);
      if (rule(v).equals("seen")) looked = isBefore(y, x);
      if (looked) s.add(y);
    }
    return s;
  }
  void takes(int v, int x) {
    desk.get(v).remove((Integer) x);
    events.get(v).add(new Event(today, x, false));
    for (NaiveText.Habit h : text.habits) {
      if (!h.by.contains(v)) continue;
      int value = h.e.value(name -> fact(v, x, name));
      if (value != 0) post(v, h.round ? 63 - (1 << v) : 1 << letters.get(x).writer, 0, x, NONE);
    }
  }
  int fact(int v, int x, String name) {
    Letter y = letters.get(x);
    switch (name) {
      case "from": return y.writer;
      case "kind": return y.kind;
      case "age": return today - y.day;
      case "known": return known(v).size();
      case "sum": return sum(x);
      case "many": return y.answers.size();
      default: {
        int n = 0;
        for (Letter z : letters) if (z.writer == v) n++;
        return n;
      }
    }
  }
  int read(int v, int x) {
    if (!w(v) || !desk.get(v).contains(x)) return NONE;
    takes(v, x);
    return desk.get(v).size();
  }
  int look(int x, int what) {
    if (!l(x)) return -101;
    Letter y = letters.get(x);
    switch (what) {
      case 0: return y.writer;
      case 1: return y.day;
      case 2: return y.kind;
      case 3: return y.to;
      case 4: return y.answers.size() > 0 ? y.answers.get(0) : NONE;
      case 5: return y.answers.size() > 1 ? y.answers.get(1) : NONE;
      default: return -102;
    }
  }
  int copyOf(int c, int what) {
    if (c < 0 || c >= copies.size() || what < 0 || what > 3) return NONE;
    Copy x = copies.get(c);
    return new int[] {x.letter, x.to, x.day, x.state}[what];
  }
  int desk(int v, int k) { return w(v) && k >= 0 && k < desk.get(v).size() ? desk.get(v).get(k) : NONE; }

  boolean isBefore(int a, int b) {
    if (a >= b) return false;
    Letter y = letters.get(b);
    if (y.known.contains(a)) return true;
    for (int c : y.known) if (letters.get(c).past.contains(a)) return true;
    return false;
  }
  int before(int a, int b) { return !two(a, b) ? NONE : isBefore(a, b) ? 1 : isBefore(b, a) ? 2 : 0; }
  int path(int a, int b, int k) {
    if (!two(a, b) || !isBefore(a, b) || k < 0) return NONE;
    for (int n = 1; n <= 30; n++) {
      List<Integer> row = rowTo(a, b, n);
      if (row != null) return k < row.size() ? row.get(k) : NONE;
    }
    throw new AssertionError();
  }
  /** The first row by numbers with n steps from a to b. */
  List<Integer> rowTo(int a, int b, int n) {
    if (n == 0) return a == b ? new ArrayList<>(List.of(a)) : null;
    for (int c = a + 1; c <= b; c++) {
      if (!letters.get(c).known.contains(a)) continue;
      List<Integer> rest = rowTo(c, b, n - 1);
      if (rest != null) { rest.add(0, a); return rest; }
    }
    return null;
  }
  int sum(int x) {
    if (!l(x)) return NONE;
    int most = 0;
    int[] s = new int[x + 1];
    for (int y = 0; y <= x; y++) {
      most = 0;
      for (int z = 0; z < y; z++) if (isBefore(z, y)) most = Math.max(most, s[z]);
      s[y] = most + 1;
    }
    return s[x];
  }
  int number(int x, int v) {
    if (!l(x) || !w(v)) return NONE;
    int n = 0;
    for (int y = 0; y < letters.size(); y++) if (letters.get(y).writer == v && (y == x || isBefore(y, x))) n++;
    return n;
  }
  int pair(int x, int u, int v) {
    if (!l(x) || !w(u) || !w(v)) return NONE;
    int n = 0;
    for (int y = 0; y < letters.size(); y++) {
      if (letters.get(y).writer == v && (y == x || isBefore(y, x))) n = Math.max(n, number(y, u));
    }
    return n;
  }
  int list(int x) {
    if (!l(x)) return NONE;
    int bits = 0;
    for (int y = 0; y < x; y++) {
      boolean ends = isBefore(y, x);
      for (int z = 0; z < x; z++) if (isBefore(z, x) && isBefore(y, z)) ends = false;
      if (ends) bits |= 1 << y;
    }
    return bits;
  }
  boolean byAnswers(int a, int b, boolean leftOnly) {
    for (int c : letters.get(b).answers) {
      if (leftOnly && letters.get(c).burnt) continue;
      if (c == a || byAnswers(a, c, leftOnly)) return true;
    }
    return false;
  }
  boolean byLists(int a, int b, Set<Integer> seen) {
    if (!seen.add(b)) return false;
    int bits = list(b);
    if (has(bits, a)) return true;
    for (int c = 0; c < b; c++) if (has(bits, c) && byLists(a, c, seen)) return true;
    return false;
  }
  int tells(int a, int b, int bearing) {
    if (!two(a, b) || bearing < 0 || bearing > 3) return NONE;
    boolean t;
    if (bearing == 0) t = byAnswers(a, b, false);
    else if (bearing == 1) t = sum(a) < sum(b);
    else if (bearing == 2) t = number(b, letters.get(a).writer) >= number(a, letters.get(a).writer);
    else t = byLists(a, b, new HashSet<>());
    return t ? 1 : 0;
  }
  int errs(int bearing) {
    if (bearing < 0 || bearing > 3) return NONE;
    int n = 0;
    for (int a = 0; a < letters.size(); a++) {
      for (int b = 0; b < letters.size(); b++) if (a != b && (tells(a, b, bearing) == 1) != isBefore(a, b)) n++;
    }
    return n;
  }
  boolean isSet(int set) { return set >= 0 && (long) set < 1L << letters.size(); }
  List<Integer> of(int set) {
    List<Integer> m = new ArrayList<>();
    for (int x = 0; x < 30; x++) if (has(set, x)) m.add(x);
    return m;
  }
  /** As many chains as the most letters of the set that are apart, each of each other. */
  int chains(int set) { return isSet(set) ? mostApart(of(set), 0, new ArrayList<>()) : NONE; }
  int mostApart(List<Integer> m, int k, List<Integer> chosen) {
    if (k == m.size()) return chosen.size();
    int most = mostApart(m, k + 1, chosen);
    for (int x : chosen) if (isBefore(x, m.get(k))) return most;
    chosen.add(m.get(k));
    most = Math.max(most, mostApart(m, k + 1, chosen));
    chosen.remove(chosen.size() - 1);
    return most;
  }
  int waits(int v, int x) {
    if (!w(v) || !desk.get(v).contains(x)) return NONE;
    int bits = 0;
    for (int y : waitsFor(v, x)) bits |= 1 << y;
    return bits;
  }
  boolean forEver(int v, int x) {
    for (int y : waitsFor(v, x)) {
      if (desk.get(v).contains(y)) {
        if (forEver(v, y)) return true;
        continue;
      }
      boolean coming = false;
      for (Copy c : copies) if (c.letter == y && c.to == v && c.state == 0) coming = true;
      if (!coming) return true;
    }
    return false;
  }
  int ever(int v) {
    if (!w(v)) return NONE;
    int bits = 0;
    for (int x : desk.get(v)) if (forEver(v, x)) bits |= 1 << x;
    return bits;
  }
  int has(int x) { return l(x) ? spread(x, 999) : NONE; }
  int readOn(int v, int x) {
    if (!w(v) || !l(x)) return NONE;
    for (Event e : events.get(v)) if (e.letter == x) return e.day;
    return NONE;
  }
  int spread(int x, int day) {
    if (!l(x) || day < 0 || day > 999) return NONE;
    int bits = 0;
    for (int v = 0; v < 6; v++) for (Event e : events.get(v)) if (e.letter == x && e.day <= day) bits |= 1 << v;
    return bits;
  }
  int all(int x) {
    if (!l(x)) return NONE;
    for (int d = 0; d <= today; d++) if ((letters.get(x).to & ~spread(x, d)) == 0) return d;
    return NONE;
  }
  int left() { int n = 0; for (Letter x : letters) if (!x.burnt) n++; return n; }
  int burn(int x) {
    if (!l(x) || letters.get(x).burnt) return NONE;
    letters.get(x).burnt = true;
    return left();
  }
  /** The least sum of ways over all rows of writers without one twice. */
  int least(int a, int b, int been) {
    if (a == b) return 0;
    int best = 1000;
    for (int c = 0; c < 6; c++) {
      if (c != a && !has(been, c)) best = Math.min(best, way[a][c] + least(c, b, been | 1 << a));
    }
    return best;
  }
  int could(int a, int b) {
    if (!two(a, b) || letters.get(a).burnt || letters.get(b).burnt) return NONE;
    if (byAnswers(a, b, true)) return 2;
    Letter x = letters.get(a), y = letters.get(b);
    if (x.writer == y.writer) return a < b ? 1 : 0;
    return x.day + least(x.writer, y.writer, 0) <= y.day ? 1 : 0;
  }
  List<Integer> ofWriter(int v, int day) {
    List<Integer> m = new ArrayList<>();
    for (int x = 0; x < letters.size(); x++) if (letters.get(x).writer == v && letters.get(x).day <= day) m.add(x);
    return m;
  }
  int forged(int v, int day, int list) {
    if (!w(v) || day < 0 || day > today || list < 0) return NONE;
    int[] n = new int[6];
    for (int u = 0; u < 6; u++) n[u] = list >> 5 * u & 31;
    for (int u = 0; u < 6; u++) {
      int most = u == v ? ofWriter(v, day).size() + 1 : ofWriter(u, day - least(u, v, 0)).size();
      if (n[u] > most) return 1;
    }
    for (int u = 0; u < 6; u++) {
      List<Integer> m = ofWriter(u, day);
      if (n[u] > 0 && n[u] <= m.size()) {
        for (int t = 0; t < 6; t++) if (number(m.get(n[u] - 1), t) > n[t]) return 2;
      }
    }
    List<Integer> his = ofWriter(v, day);
    if (!his.isEmpty()) for (int t = 0; t < 6; t++) if (n[t] < number(his.get(his.size() - 1), t)) return 3;
    return 0;
  }
  int forgers(int day, int list) {
    if (day < 0 || day > today || list < 0) return NONE;
    int bits = 0;
    for (int v = 0; v < 6; v++) if (forged(v, day, list) == 0) bits |= 1 << v;
    return bits;
  }
  boolean leads(int a, int b, Set<Integer> seen) {
    if (a == b) return true;
    if (!seen.add(a)) return false;
    for (int c = 0; c < letters.size(); c++) {
      boolean step = isBefore(a, c);
      for (int[] t : told) step |= t[0] == a && t[1] == c;
      if (step && leads(c, b, seen)) return true;
    }
    return false;
  }
  int ahead(int a, int b) {
    if (!two(a, b) || told.size() == 12 || leads(b, a, new HashSet<>())) return NONE;
    told.add(new int[] {a, b});
    return told.size();
  }
  List<List<Integer>> rows(int set) {
    List<List<Integer>> all = new ArrayList<>();
    grow(of(set), new ArrayList<>(), all);
    return all;
  }
  void grow(List<Integer> rest, List<Integer> row, List<List<Integer>> all) {
    if (rest.isEmpty()) { all.add(new ArrayList<>(row)); return; }
    for (Integer x : rest) {
      boolean may = true;
      for (Integer y : rest) {
        if (isBefore(y, x)) may = false;
        for (int[] t : told) if (t[0] == y && t[1] == x) may = false;
      }
      if (!may) continue;
      List<Integer> less = new ArrayList<>(rest);
      less.remove(x);
      row.add(x);
      grow(less, row, all);
      row.remove(row.size() - 1);
    }
  }
  boolean ordered(int set) { return isSet(set) && Integer.bitCount(set) <= 12; }
  int orders(int set) { return ordered(set) ? rows(set).size() : NONE; }
  int order(int set, int k, int place) {
    if (!ordered(set) || k < 0 || place < 0 || place >= Integer.bitCount(set)) return NONE;
    List<List<Integer>> r = rows(set);
    return k < r.size() ? r.get(k).get(place) : NONE;
  }
  int first(int set, int a, int b) {
    if (!ordered(set) || !two(a, b) || !has(set, a) || !has(set, b)) return NONE;
    int n = 0;
    for (List<Integer> r : rows(set)) if (r.indexOf(a) < r.indexOf(b)) n++;
    return n;
  }
  int ask(int set) {
    if (!ordered(set) || Integer.bitCount(set) < 2) return NONE;
    int best = NONE, most = -1;
    List<List<Integer>> rows = rows(set);
    for (int a : of(set)) {
      for (int b : of(set)) {
        if (a >= b) continue;
        int n = 0;
        for (List<Integer> r : rows) if (r.indexOf(a) < r.indexOf(b)) n++;
        n = Math.min(n, rows.size() - n);
        if (n > most) { most = n; best = 32 * a + b; }
      }
    }
    return best;
  }
  int hangs(int x, int what) {
    if (!l(x) || what < 0 || what > 1) return NONE;
    boolean back = false;
    for (Letter y : letters) back |= y.kind == 2 && y.answers.contains(x);
    if (!back) return NONE;
    int bits = 0;
    for (int y = 0; y < letters.size(); y++) if (what == 0 ? byAnswers(x, y, false) : isBefore(x, y)) bits |= 1 << y;
    return bits;
  }
  int count(int what) {
    int n = 0;
    switch (what) {
      case 0: return today;
      case 1: return letters.size();
      case 2: return copies.size();
      case 3: for (Copy c : copies) if (c.state == 0) n++; return n;
      case 4: for (List<Integer> d : desk) n += d.size(); return n;
      case 5: for (List<Event> e : events) for (Event x : e) if (!x.wrote) n++; return n;
      case 6: return left();
      case 7: return text.habits.size();
      case 8: return text.knots;
      case 9: return told.size();
      default: return NONE;
    }
  }
}
