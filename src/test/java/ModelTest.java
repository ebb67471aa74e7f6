import java.util.NoSuchElementException;

/** Long rows of calls, the same at every start, on the program and on NaiveRepublic: each answer must agree. */
public final class ModelTest {
  private long seed;
  private CitingLetters x;
  private NaiveRepublic y;
  private StringBuilder said;
  private int wrong;
  /** A run in which next to nobody answers by himself, so that letters are left to lie, wait and be asked about. */
  private boolean quiet;

  public static void main(String[] args) {
    ModelTest t = new ModelTest();
    int runs = args.length > 0 ? Integer.parseInt(args[0]) : 300;
    for (int run = 0; run < runs && t.wrong == 0; run++) t.run(run);
    for (int k = 0; k < 4000 && t.wrong == 0; k++) t.texts(k);
    System.out.println(t.wrong == 0 ? "ModelTest: all answers agree" : "ModelTest: answers differ");
    if (t.wrong != 0) System.exit(1);
  }

  private int some(int n) {
    seed = seed * 6364136223846793005L + 1442695040888963407L;
    return (int) ((seed >>> 33) % n);
  }

  private void same(String call, int got, int want) {
    said.append(call).append(" -> ").append(want).append('\n');
    if (got != want && wrong++ == 0) System.out.println(said + "answered " + got + ", the model " + want);
  }
  private int is(boolean b) { return b ? 1 : 0; }

  private void run(int number) {
    seed = 77777L * number + 5;
    x = new CitingLetters();
    y = new NaiveRepublic();
    said = new StringBuilder("run " + number + "\n");
    int eager = some(4);
    quiet = some(3) != 0;
    if (some(5) != 0) tell(quiet ? rules() : text());
    for (int k = 0; k < 480 && wrong == 0; k++) {
      if (some(eager + 3) == 0) change(); else ask();
    }
  }

  private void texts(int number) {
    if (number == 0) {
      seed = 99;
      x = new CitingLetters();
      y = new NaiveRepublic();
    }
    said = new StringBuilder();
    tell(text());
  }

  private boolean held(int w) { return w >= 0 && w < 6 && !y.desk.get(w).isEmpty(); }
  private int writer() { return some(40) == 0 ? some(2) * 7 - 1 : some(6); }
  private int letter() { return some(40) == 0 ? some(2) * 31 - 1 : y.letters.isEmpty() ? some(2) : some(y.letters.size()); }
  private int copy() { return some(40) == 0 ? -1 : y.copies.isEmpty() ? 0 : Math.max(0, y.copies.size() - 1 - some(12)); }
  private int answer(int w) {
    if (some(6) == 0) return letter();
    Object[] known = w >= 0 && w < 6 ? y.known(w).toArray() : new Object[0];
    return known.length == 0 ? CitingLetters.NONE : (Integer) known[some(known.length)];
  }
  private int set(int most) {
    int bits = 0;
    if (some(50) == 0) return some(2) == 0 ? -1 : 1 << 30;
    if (some(50) == 0) return (1 << Math.min(30, y.letters.size() + some(2))) - 1;
    for (int k = some(most + 1); k > 0 && !y.letters.isEmpty(); k--) bits |= 1 << some(y.letters.size());
    return bits;
  }

  private void change() {
    switch (some(20)) {
      case 0: { int a = writer(), b = writer(), d = some(8) == 0 ? some(34) - 1 : 1 + some(9); same("way " + a + " " + b + " " + d, is(x.way(a, b, d)), is(y.way(a, b, d))); break; }
      case 1: case 2: case 3: case 4: case 5: {
        int w = writer(), to = some(9) == 0 ? some(70) - 3 : 1 + some(63) & ~(1 << Math.max(0, w)), kind = some(20) == 0 ? some(6) - 1 : some(2);
        int one = some(3) == 0 ? -1 : answer(w), other = some(2) == 0 ? -1 : answer(w);
        if (some(3) == 0) to &= -to;
        if (some(6) == 0) { kind = 2; other = some(8) == 0 ? other : -1; }
        same("write " + w + " " + to + " " + kind + " " + one + " " + other, x.write(w, to, kind, one, other), y.write(w, to, kind, one, other));
        break;
      }
      case 6: { int c = copy(), d = some(9) == 0 ? some(102) - 1 : 1 + some(9); same("late " + c + " " + d, x.late(c, d), y.late(c, d)); break; }
      case 7: { int c = copy(); same("lose " + c, is(x.lose(c)), is(y.lose(c))); break; }
      case 8: { int l = letter(), a = writer(), b = writer(); same("again " + l + " " + a + " " + b, x.again(l, a, b), y.again(l, a, b)); break; }
      case 9: { int h = some(66) - 1, a = y.today + some(9) - 1, b = a + some(7) - 1; if (some(7) == 0) h = 0; same("split " + h + " " + a + " " + b, is(x.split(h, a, b)), is(y.split(h, a, b))); break; }
      case 10: case 11: case 12: { int n = some(25) == 0 ? some(103) - 1 : some(6); same("days " + n, x.days(n), y.days(n)); break; }
      case 13: case 14: {
        int w = writer(), l = held(w) && some(5) > 0 ? y.desk.get(w).get(some(y.desk.get(w).size())) : letter();
        same("read " + w + " " + l, x.read(w, l), y.read(w, l));
        break;
      }
      case 15: if (some(4) == 0) { int l = letter(); same("burn " + l, x.burn(l), y.burn(l)); } break;
      case 16: { int a = letter(), b = letter(); same("ahead " + a + " " + b, x.ahead(a, b), y.ahead(a, b)); break; }
      default: if (some(3) == 0) tell(quiet ? rules() : text());
    }
  }

  private void ask() {
    int a = letter(), b = letter(), u = writer(), v = writer(), n = some(12) == 0 ? some(9) - 1 : some(5), d = some(20) == 0 ? some(1003) - 1 : some(y.today + 2) - 1;
    int topic = some(31);
    if (topic == 9 || topic == 10 || topic == 27) {
      for (int k = 0; k < 12 && !held(u) && some(12) > 0; k++) u = some(6);
    }
    switch (topic) {
      case 0: same("before " + a + " " + b, x.before(a, b), y.before(a, b)); break;
      case 1: same("path " + a + " " + b + " " + n, x.path(a, b, n), y.path(a, b, n)); break;
      case 2: same("sum " + a, x.sum(a), y.sum(a)); break;
      case 3: same("number " + a + " " + u, x.number(a, u), y.number(a, u)); break;
      case 4: same("pair " + a + " " + u + " " + v, x.pair(a, u, v), y.pair(a, u, v)); break;
      case 5: same("list " + a, x.list(a), y.list(a)); break;
      case 6: same("tells " + a + " " + b + " " + n, x.tells(a, b, n), y.tells(a, b, n)); break;
      case 7: if (some(4) == 0) same("errs " + n, x.errs(n), y.errs(n)); break;
      case 8: { int s = set(14); same("chains " + s, x.chains(s), y.chains(s)); break; }
      case 9: if (held(u) && some(6) > 0) a = y.desk.get(u).get(some(y.desk.get(u).size())); same("waits " + u + " " + a, x.waits(u, a), y.waits(u, a)); break;
      case 10: same("ever " + u, x.ever(u), y.ever(u)); break;
      case 11: same("has " + a, x.has(a), y.has(a)); break;
      case 12: same("readOn " + u + " " + a, x.readOn(u, a), y.readOn(u, a)); break;
      case 13: same("spread " + a + " " + d, x.spread(a, d), y.spread(a, d)); break;
      case 14: same("all " + a, x.all(a), y.all(a)); break;
      case 15: same("could " + a + " " + b, x.could(a, b), y.could(a, b)); break;
      case 16: case 17: { int l = list(a, b, u); same("forged " + v + " " + d + " " + l, x.forged(v, d, l), y.forged(v, d, l)); break; }
      case 18: { int l = list(a, b, u); same("forgers " + d + " " + l, x.forgers(d, l), y.forgers(d, l)); break; }
      case 19: { int s = set(7); if (cheap(s)) same("orders " + s, x.orders(s), y.orders(s)); break; }
      case 20: case 21: { int s = set(7), k = some(9) - 1; if (cheap(s)) same("order " + s + " " + k + " " + n, x.order(s, k, n), y.order(s, k, n)); break; }
      case 22: { int s = set(7); if (some(4) > 0 && y.two(a, b)) s |= 1 << a | 1 << b; if (cheap(s)) same("first " + s + " " + a + " " + b, x.first(s, a, b), y.first(s, a, b)); break; }
      case 23: { int s = set(7); if (cheap(s)) same("ask " + s, x.ask(s), y.ask(s)); break; }
      case 24: for (int k = 0; k < 40 && y.l(a) && y.hangs(a, 0) < 0 && some(9) > 0; k++) a = some(y.letters.size()); n = some(9) == 0 ? n : some(2); same("hangs " + a + " " + n, x.hangs(a, n), y.hangs(a, n)); break;
      case 25: same("look " + a + " " + n, look(a, n), y.look(a, n)); break;
      case 26: { int c = copy(); same("copy " + c + " " + n, x.copy(c, n), y.copyOf(c, n)); break; }
      case 27: same("desk " + u + " " + n, x.desk(u, n), y.desk(u, n)); break;
      case 28: same("fault " + n, x.fault(n), y.fault(n)); break;
      default: { int c = some(12) - 1; same("count " + c, x.count(c), y.count(c)); }
    }
  }

  private int look(int a, int n) {
    try {
      return x.look(a, n);
    } catch (IndexOutOfBoundsException e) {
      return -101;
    } catch (NoSuchElementException e) {
      return -102;
    }
  }

  /** The model writes down every order: that is kept to few letters, or to answers of none at all. */
  private boolean cheap(int set) { return Integer.bitCount(set) <= 8 || Integer.bitCount(set) > 12 || !y.isSet(set); }

  /** A forged list that is not far from one that a letter bears. */
  private int list(int a, int b, int u) {
    int bits = 0;
    for (int v = 0; v < 6; v++) {
      int n = some(5) == 0 ? y.number(b, v) : y.number(a, v);
      if (v == u && some(2) == 0) n++;
      if (some(12) == 0) n += some(3) - 1;
      if (n < 0) n = 0;
      bits |= (n & 31) << 5 * v;
    }
    return some(30) == 0 ? bits | 1 << 30 + some(2) : bits;
  }

  // ---- texts ----

  private void tell(String t) {
    if (t.length() > 400) t = t.substring(0, 400);
    StringBuilder s = new StringBuilder(t);
    while (s.length() % 20 != 0) s.append((char) some(256));
    for (int k = 0; k < s.length() && wrong == 0; k += 20) {
      int[] n = new int[5];
      for (int i = 0; i < 20; i++) n[i / 4] = n[i / 4] << 8 | s.charAt(k + i);
      same("feed '" + s.substring(k, k + 20) + "'", x.feed(n[0], n[1], n[2], n[3], n[4]), y.feed(n));
    }
    if (some(15) == 0) same("text too long", x.text(401), y.text(401));
    same("text " + t.length(), x.text(t.length()), y.text(t.length()));
    for (int k = 0; k < 2; k++) same("fault " + k, x.fault(k), y.fault(k));
    for (int k = 7; k < 9; k++) same("count " + k, x.count(k), y.count(k));
  }

  private String rules() {
    StringBuilder s = new StringBuilder();
    for (int w = 0; w < 6; w++) s.append("read ").append(pick("hand hand first answers seen first answers seen comes")).append(w).append(';');
    if (some(2) == 0) s.append("answer kind=1 and ").append(e(1)).append(" by ").append(some(6)).append(';');
    return some(10) == 0 ? "" : s.toString();
  }

  private String text() {
    StringBuilder s = new StringBuilder();
    int lines = some(12) == 0 ? 14 : some(6);
    int ruled = 0;
    for (int k = 0; k < lines; k++) {
      if (some(3) == 0) {
        s.append("read ").append(pick("hand comes first answers seen seen answers first"));
        int n = some(30) == 0 ? 0 : 1 + some(3);
        for (int i = 0; i < n; i++) {
          int w = some(6);
          if ((ruled >> w & 1) == 0 || some(25) == 0) { s.append(' ').append(w); ruled |= 1 << w; }
        }
        if (ruled == 0 && s.charAt(s.length() - 1) != ' ') ruled = 63;
      } else {
        s.append(pick("answer answer round")).append(' ').append(some(4) == 0 ? "1" : e(some(25) == 0 ? 10 : some(3) + 1));
        if (some(3) > 0) {
          s.append(" by");
          int first = some(6);
          for (int i = 0; i <= some(3); i++) s.append(' ').append(some(30) == 0 ? some(8) : (first + i) % 6);
        }
      }
      s.append(some(20) == 0 ? " ; \n" : ";");
    }
    for (int k = some(3) == 0 ? some(3) : 0; k > 0 && s.length() > 0; k--) spoil(s);
    return s.toString();
  }

  private void spoil(StringBuilder s) {
    int at = some(s.length());
    switch (some(5)) {
      case 0: s.deleteCharAt(at); break;
      case 1: s.insert(at, "<>=()+-;09 abz\n\t*".charAt(some(17))); break;
      case 2: s.insert(at, pick("not and or by read 1000 999 007 <> => >= <= ( ) ;") + " "); break;
      case 3: s.setLength(at); break;
      default: s.setCharAt(at, (char) some(256));
    }
  }

  private String pick(String words) {
    String[] w = words.split(" ");
    return w[some(w.length)];
  }

  private String e(int depth) { String s = a(depth); while (some(4) == 0) s += " or " + a(depth); return s; }
  private String a(int depth) { String s = b(depth); while (some(4) == 0) s += " and " + b(depth); return s; }
  private String b(int depth) { return some(5) == 0 ? "not " + b(depth) : some(3) > 0 ? s(depth) + pick("< <= = <> >= >") + s(depth) : s(depth); }
  private String s(int depth) { String s = p(depth); while (some(4) == 0) s += pick("+ -") + p(depth); return s; }
  private String p(int depth) {
    if (depth > 0 && some(depth > 5 ? 2 : 4) == 0) return "(" + e(depth - 1) + ")";
    return some(2) == 0 ? "" + (some(10) == 0 ? some(1003) : some(8)) : pick("from kind age known sum many mine");
  }
}
