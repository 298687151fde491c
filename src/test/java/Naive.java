import java.util.ArrayDeque;
import java.util.ArrayList;
import java.util.Arrays;
import java.util.Deque;
import java.util.HashMap;
import java.util.List;
import java.util.Map;
import java.util.TreeMap;
import java.util.TreeSet;

/**
 * The document said again in its plainest form: laws are read from their words each time, sets are sets, and what is
 * best is found by looking at everything. OracleTests compares the program with it.
 */
final class Naive {
  static final class Fault extends RuntimeException {
    final int kind;
    final int place;

    Fault(int kind, int place) {
      super(null, null, false, false);
      this.kind = kind;
      this.place = place;
    }
  }

  static final class Person {
    int age;
    int mate = -1;
    TreeSet<Integer> is = new TreeSet<>();
    TreeMap<Integer, Integer> list = new TreeMap<>();

    Person copy() {
      Person c = new Person();
      c.age = age;
      c.mate = mate;
      c.is = new TreeSet<>(is);
      c.list = new TreeMap<>(list);
      return c;
    }
  }

  static final class World {
    List<Integer> wanes = new ArrayList<>();
    List<Person> people = new ArrayList<>();
    List<String> good;
    List<String> may;
    int bar = 10;
    int room = 14;
    int lines;
    int year;

    World copy() {
      World c = new World();
      c.wanes = new ArrayList<>(wanes);
      for (Person p : people) {
        c.people.add(p.copy());
      }
      c.good = good;
      c.may = may;
      c.bar = bar;
      c.room = room;
      c.lines = lines;
      c.year = year;
      return c;
    }

    boolean two(long p, long q) {
      return one(p) && one(q) && p != q;
    }

    boolean one(long p) {
      return p >= 0 && p < people.size();
    }

    boolean thing(long t) {
      return t >= 0 && t < wanes.size();
    }

    int rare(int t) {
      int loathe = 0;
      for (Person p : people) {
        loathe += p.list.containsKey(t) ? 1 : 0;
      }
      return people.size() - loathe + 1;
    }

    Map<String, Long> terms(int p, int q) {
      Person a = people.get(p);
      Person b = people.get(q);
      long common = 0;
      long rare = 0;
      long insult = 0;
      for (int t = 0; t < wanes.size(); t++) {
        if (a.list.containsKey(t) && b.list.containsKey(t)) {
          common++;
          rare += rare(t);
        }
        if (a.list.containsKey(t) && b.is.contains(t)) {
          insult++;
        }
        if (b.list.containsKey(t) && a.is.contains(t)) {
          insult++;
        }
      }
      Map<String, Long> m = new HashMap<>();
      m.put("common", common);
      m.put("rare", rare);
      m.put("insult", insult);
      m.put("lists", (long) a.list.size() + b.list.size());
      m.put("apart", (long) Math.abs(a.age - b.age));
      m.put("oldest", (long) Math.max(a.age, b.age));
      m.put("year", (long) year);
      return m;
    }

    int good(int p, int q) {
      Map<String, Long> m = terms(p, q);
      if (good == null) {
        return (int) (m.get("rare") - 2 * m.get("insult"));
      }
      return (int) new Reckoner(good, m).sum();
    }

    boolean may(int p, int q) {
      return may == null || new Reckoner(may, terms(p, q)).truth();
    }

    int why(long deed) {
      if (deed == -1) {
        year();
        return 0;
      }
      for (int p = 0; p < people.size(); p++) {
        for (int x = 0; x < 14; x++) {
          if (deed == 100 * p + x) {
            return two(p, x) ? wedOrPart(p, x) : 1;
          }
          if (deed == 1000 + 100 * p + x) {
            return thing(x) ? takeOrGive(p, x) : 1;
          }
          if (deed == 2000 + 100 * p + x) {
            if (!two(p, x)) {
              return 1;
            }
            people.get(p).list = new TreeMap<>(people.get(x).list);
            return 0;
          }
        }
      }
      return 1;
    }

    int wedOrPart(int p, int q) {
      Person a = people.get(p);
      Person b = people.get(q);
      if (a.mate == q) {
        a.mate = -1;
        b.mate = -1;
        return 0;
      }
      if (a.mate >= 0 || b.mate >= 0) {
        return 2;
      }
      if (!may(p, q)) {
        return 3;
      }
      a.mate = q;
      b.mate = p;
      return 0;
    }

    int takeOrGive(int p, int t) {
      TreeMap<Integer, Integer> list = people.get(p).list;
      if (list.containsKey(t)) {
        list.remove(t);
        return 0;
      }
      if (list.size() >= room) {
        return 4;
      }
      list.put(t, 0);
      return 0;
    }

    int year() {
      int waned = 0;
      for (Person p : people) {
        p.age++;
        TreeMap<Integer, Integer> kept = new TreeMap<>();
        for (Map.Entry<Integer, Integer> e : p.list.entrySet()) {
          if (e.getValue() + 1 == wanes.get(e.getKey())) {
            waned++;
          } else {
            kept.put(e.getKey(), e.getValue() + 1);
          }
        }
        p.list = kept;
      }
      World then = copy();
      for (Person p : people) {
        if (p.mate >= 0 && p.list.size() < room) {
          for (int t : then.people.get(p.mate).list.keySet()) {
            if (!p.list.containsKey(t)) {
              p.list.put(t, 0);
              break;
            }
          }
        }
      }
      year++;
      return waned;
    }

    /** The world in n years, where p and q alone are wed and all others' lists stay. */
    World inYears(int p, int q, int n) {
      World w = copy();
      for (Person x : w.people) {
        x.mate = -1;
      }
      w.people.get(p).mate = q;
      w.people.get(q).mate = p;
      for (int i = 0; i < n; i++) {
        w.year();
        for (int x = 0; x < people.size(); x++) {
          if (x != p && x != q) {
            w.people.get(x).list = new TreeMap<>(people.get(x).list);
          }
        }
      }
      return w;
    }

    int holds(int p, int q) {
      for (int n = 0; n < 40; n++) {
        if (inYears(p, q, n).good(p, q) < bar) {
          return n;
        }
      }
      return 40;
    }

    int bits(int p) {
      int bits = 0;
      for (int t : people.get(p).list.keySet()) {
        bits |= 1 << t;
      }
      return bits;
    }

    int pairs() {
      int n = 0;
      for (Person p : people) {
        n += p.mate >= 0 ? 1 : 0;
      }
      return n / 2;
    }

    int goodWed() {
      int sum = 0;
      for (int p = 0; p < people.size(); p++) {
        if (people.get(p).mate > p) {
          sum += good(p, people.get(p).mate);
        }
      }
      return sum;
    }
  }

  /** Reckons a law from its words. */
  static final class Reckoner {
    final List<String> words;
    final Map<String, Long> terms;
    int at;

    Reckoner(List<String> words, Map<String, Long> terms) {
      this.words = words;
      this.terms = terms;
    }

    boolean is(String s) {
      return at < words.size() && words.get(at).equals(s);
    }

    boolean truth() {
      boolean x = both();
      while (is("or")) {
        at++;
        boolean y = both();
        x = x || y;
      }
      return x;
    }

    boolean both() {
      boolean x = unit();
      while (is("and")) {
        at++;
        boolean y = unit();
        x = x && y;
      }
      return x;
    }

    boolean unit() {
      if (is("not")) {
        at++;
        return !unit();
      }
      if (is("[")) {
        at++;
        boolean x = truth();
        at++;
        return x;
      }
      long a = sum();
      String op = words.get(at++);
      long b = sum();
      return op.equals("=") ? a == b : op.equals("<") ? a < b : a > b;
    }

    long sum() {
      long x = term();
      while (is("+") || is("-")) {
        boolean plus = is("+");
        at++;
        long y = term();
        x = keep(plus ? x + y : x - y);
      }
      return x;
    }

    long term() {
      long x = atom();
      while (is("*")) {
        at++;
        x = keep(x * atom());
      }
      return x;
    }

    long atom() {
      String w = words.get(at++);
      if (w.equals("(")) {
        long x = sum();
        at++;
        return x;
      }
      return terms.containsKey(w) ? terms.get(w) : Long.parseLong(w);
    }

    static long keep(long x) {
      return x > 1000000 ? 1000000 : x < -1000000 ? -1000000 : x;
    }
  }

  static final class Token {
    final String text;
    final int at;
    final boolean bad;

    Token(String text, int at, boolean bad) {
      this.text = text;
      this.at = at;
      this.bad = bad;
    }
  }

  /** Reads a text by its tokens; a fault is thrown. */
  static final class Parser {
    final List<Token> tokens = new ArrayList<>();
    final World world = new World();
    int at;

    Parser(byte[] text) {
      int i = 0;
      while (i < text.length) {
        int c = text[i];
        int from = i;
        if (c == 10 || c == 32) {
          i++;
          continue;
        }
        if (c >= 'a' && c <= 'z') {
          while (i < text.length && text[i] >= 'a' && text[i] <= 'z') {
            i++;
          }
          add(text, from, i, false);
        } else if (c >= '0' && c <= '9') {
          while (i < text.length && text[i] >= '0' && text[i] <= '9') {
            i++;
          }
          add(text, from, i, i - from > 3);
        } else {
          i++;
          add(text, from, i, c < 0 || ";:+-*()[]=<>".indexOf(c) < 0);
        }
      }
      tokens.add(new Token("", text.length, false));
    }

    void add(byte[] text, int from, int to, boolean bad) {
      tokens.add(new Token(new String(text, from, to - from, java.nio.charset.StandardCharsets.ISO_8859_1), from, bad));
    }

    Fault fault(int kind) {
      Token t = tokens.get(at);
      return new Fault(t.bad ? 1 : kind, t.at);
    }

    boolean is(String s) {
      return !tokens.get(at).bad && tokens.get(at).text.equals(s);
    }

    boolean number() {
      Token t = tokens.get(at);
      return !t.bad && !t.text.isEmpty() && Character.isDigit(t.text.charAt(0));
    }

    void need(String s) {
      if (!is(s)) {
        throw fault(2);
      }
      at++;
    }

    int n(int low, int high) {
      if (!number()) {
        throw fault(2);
      }
      int v = Integer.parseInt(tokens.get(at).text);
      if (v < low || v > high) {
        throw fault(3);
      }
      at++;
      return v;
    }

    World read() {
      while (!tokens.get(at).text.isEmpty()) {
        line();
        need(";");
        world.lines++;
      }
      return world;
    }

    void line() {
      if (is("thing")) {
        if (world.wanes.size() == 14) {
          throw fault(4);
        }
        at++;
        int wanes = 0;
        if (is("wanes")) {
          at++;
          wanes = n(1, 99);
        }
        world.wanes.add(wanes);
      } else if (is("person")) {
        if (world.people.size() == 8) {
          throw fault(4);
        }
        at++;
        need("age");
        Person p = new Person();
        p.age = n(0, 99);
        if (is("is")) {
          at++;
          do {
            p.is.add(n(0, world.wanes.size() - 1));
          } while (number());
        }
        if (is("loathes")) {
          at++;
          do {
            p.list.put(n(0, world.wanes.size() - 1), 0);
          } while (number());
        }
        world.people.add(p);
      } else if (is("good")) {
        at++;
        need(":");
        int from = at;
        sum(0);
        world.good = words(from);
      } else if (is("may")) {
        at++;
        need(":");
        int from = at;
        truth(0);
        world.may = words(from);
      } else if (is("bar")) {
        at++;
        world.bar = n(0, 999);
      } else if (is("room")) {
        at++;
        world.room = n(1, 14);
      } else {
        throw fault(2);
      }
    }

    List<String> words(int from) {
      List<String> words = new ArrayList<>();
      for (int i = from; i < at; i++) {
        words.add(tokens.get(i).text);
      }
      return words;
    }

    void truth(int within) {
      both(within);
      while (is("or")) {
        at++;
        both(within);
      }
    }

    void both(int within) {
      unit(within);
      while (is("and")) {
        at++;
        unit(within);
      }
    }

    void deeper(int within) {
      if (within == 6) {
        throw fault(4);
      }
      at++;
    }

    void unit(int within) {
      if (is("not")) {
        deeper(within);
        unit(within + 1);
      } else if (is("[")) {
        deeper(within);
        truth(within + 1);
        need("]");
      } else {
        sum(within);
        if (!is("=") && !is("<") && !is(">")) {
          throw fault(2);
        }
        at++;
        sum(within);
      }
    }

    void sum(int within) {
      term(within);
      while (is("+") || is("-")) {
        at++;
        term(within);
      }
    }

    void term(int within) {
      atom(within);
      while (is("*")) {
        at++;
        atom(within);
      }
    }

    void atom(int within) {
      if (is("(")) {
        deeper(within);
        sum(within + 1);
        need(")");
      } else if (number()) {
        at++;
      } else if (Arrays.asList("common", "rare", "insult", "lists", "apart", "oldest", "year")
          .contains(tokens.get(at).text)) {
        at++;
      } else {
        throw fault(2);
      }
    }
  }

  static final int FAR = -2000000;

  private byte[] tape = new byte[0];
  private int faultKind;
  private int faultPlace = -1;
  private World now = new World();
  private final Deque<World> past = new ArrayDeque<>();
  private final int[] sorts = new int[4];
  private final long[][] trays = new long[4][];
  private final World[] images = new World[2];

  /** All matchings of those who are there, of pairs that are fit: whom each is with. */
  private List<int[]> matchings(int there, boolean[][] fit) {
    List<int[]> found = new ArrayList<>();
    int[] with = new int[now.people.size()];
    Arrays.fill(with, -1);
    gather(0, there, fit, with, found);
    return found;
  }

  private void gather(int p, int there, boolean[][] fit, int[] with, List<int[]> found) {
    if (p == with.length) {
      found.add(with.clone());
      return;
    }
    gather(p + 1, there, fit, with, found);
    if (with[p] < 0 && (there >> p & 1) == 1) {
      for (int q = p + 1; q < with.length; q++) {
        if (with[q] < 0 && (there >> q & 1) == 1 && fit[p][q]) {
          with[p] = q;
          with[q] = p;
          gather(p + 1, there, fit, with, found);
          with[p] = -1;
          with[q] = -1;
        }
      }
    }
  }

  private boolean[][] mayTable() {
    int n = now.people.size();
    boolean[][] fit = new boolean[n][n];
    for (int p = 0; p < n; p++) {
      for (int q = 0; q < n; q++) {
        fit[p][q] = p != q && now.may(p, q);
      }
    }
    return fit;
  }

  private int[][] goodTable() {
    int n = now.people.size();
    int[][] good = new int[n][n];
    for (int p = 0; p < n; p++) {
      for (int q = 0; q < n; q++) {
        good[p][q] = p == q ? 0 : now.good(p, q);
      }
    }
    return good;
  }

  private static int pairsOf(int[] with) {
    int n = 0;
    for (int q : with) {
      n += q >= 0 ? 1 : 0;
    }
    return n / 2;
  }

  private static int goodOf(int[] with, int[][] good) {
    int sum = 0;
    for (int p = 0; p < with.length; p++) {
      sum += with[p] > p ? good[p][with[p]] : 0;
    }
    return sum;
  }

  private static boolean ahead(int[] a, int[] b) {
    for (int p = 0; p < a.length; p++) {
      int x = a[p] < 0 ? 99 : a[p];
      int y = b[p] < 0 ? 99 : b[p];
      if (x != y) {
        return x < y;
      }
    }
    return false;
  }

  private int[] most(int there, boolean[][] fit, int[][] good) {
    int[] best = null;
    for (int[] m : matchings(there, fit)) {
      if (best == null) {
        best = m;
        continue;
      }
      int d = pairsOf(m) - pairsOf(best);
      if (d == 0) {
        d = goodOf(m, good) - goodOf(best, good);
      }
      if (d > 0 || d == 0 && ahead(m, best)) {
        best = m;
      }
    }
    return best;
  }

  private static int breaker(int[] with, boolean[][] fit, int[][] good) {
    for (int p = 0; p < with.length; p++) {
      for (int q = p + 1; q < with.length; q++) {
        if (fit[p][q] && (with[p] < 0 || good[p][q] > good[p][with[p]])
            && (with[q] < 0 || good[p][q] > good[q][with[q]])) {
          return 10 * p + q;
        }
      }
    }
    return -1;
  }

  private int[] stable(boolean[][] fit, int[][] good) {
    int[] best = null;
    for (int[] m : matchings(255, fit)) {
      if (breaker(m, fit, good) < 0 && (best == null || ahead(m, best))) {
        best = m;
      }
    }
    return best;
  }

  private boolean asks(long what) {
    return what == 0 || what == 1 || what >= 10 && what < 10 + now.people.size();
  }

  private static long tell(int[] m, int[][] good, long what) {
    return what == 0 ? pairsOf(m) : what == 1 ? goodOf(m, good) : m[(int) what - 10];
  }

  /** All sets of n bits, the fewest first, of like ones the least. */
  private static List<Integer> setsByCount(int n) {
    List<Integer> sets = new ArrayList<>();
    for (int k = 0; k <= n; k++) {
      for (int s = 0; s < 1 << n; s++) {
        if (Integer.bitCount(s) == k) {
          sets.add(s);
        }
      }
    }
    return sets;
  }

  private static long cut(int sort, long v) {
    return sort == 0 ? (byte) v : sort == 1 ? (short) v : sort == 2 ? (int) v : v;
  }

  private void did(World before) {
    past.addLast(before);
    if (past.size() > 8) {
      past.removeFirst();
    }
  }

  private long bureau(long n) {
    if (n < 0 || n > tape.length) {
      return -3;
    }
    byte[] text = Arrays.copyOf(tape, (int) n);
    tape = new byte[0];
    try {
      now = new Parser(text).read();
      past.clear();
      faultKind = 0;
      faultPlace = -1;
      return now.lines;
    } catch (Fault f) {
      faultKind = f.kind;
      faultPlace = f.place;
      return -30 - f.kind;
    }
  }

  private long season(int seed, long times) {
    if (times < 1 || times > 40) {
      return -3;
    }
    int people = now.people.size();
    int things = now.wanes.size();
    if (people == 0 || things == 0) {
      return -5;
    }
    World before = now.copy();
    int[] x = {seed};
    int could = 0;
    for (int i = 0; i < times; i++) {
      int kind = draw(x) % 4;
      long deed = -1;
      if (kind == 1) {
        int p = draw(x) % people;
        deed = 100 * p + draw(x) % people;
      } else if (kind == 2) {
        int p = draw(x) % people;
        deed = 1000 + 100 * p + draw(x) % things;
      } else if (kind == 3) {
        int p = draw(x) % people;
        deed = 2000 + 100 * p + draw(x) % people;
      }
      could += now.why(deed) == 0 ? 1 : 0;
    }
    if (could > 0) {
      did(before);
    }
    return could;
  }

  private static int draw(int[] x) {
    x[0] = 1103515245 * x[0] + 12345;
    return x[0] >>> 16;
  }

  private long leftFor(int p, int q, long what) {
    boolean[][] fit = mayTable();
    int[][] good = goodTable();
    for (int s : setsByCount(now.people.size())) {
      if ((s >> p & 1) == 0 && (s >> q & 1) == 0 && most(~s, fit, good)[p] == q) {
        return what == 0 ? Integer.bitCount(s) : s;
      }
    }
    return -1;
  }

  private long fib(int p, int q, long what) {
    for (int s : setsByCount(now.wanes.size())) {
      if ((s & now.bits(p)) == 0) {
        World w = now.copy();
        for (int t = 0; t < 14; t++) {
          if ((s >> t & 1) == 1) {
            w.people.get(p).list.put(t, 0);
          }
        }
        if (w.good(p, q) >= now.bar) {
          return what == 0 ? Integer.bitCount(s) : s;
        }
      }
    }
    return -1;
  }

  private long pieced(int p, long what) {
    for (int s : setsByCount(now.people.size())) {
      int together = 0;
      for (int x = 0; x < now.people.size(); x++) {
        together |= (s >> x & 1) == 1 ? now.bits(x) : 0;
      }
      if ((s >> p & 1) == 0 && together == now.bits(p)) {
        return what == 0 ? Integer.bitCount(s) : s;
      }
    }
    return -1;
  }

  private boolean house(int s, long k) {
    int same = -1;
    for (int x = 0; x < now.people.size(); x++) {
      same &= (s >> x & 1) == 1 ? now.bits(x) : -1;
    }
    return Integer.bitCount(same & 16383) >= k;
  }

  private long child(int p, int q) {
    int spare = -1;
    TreeSet<Integer> all = new TreeSet<>(now.people.get(p).list.keySet());
    all.addAll(now.people.get(q).list.keySet());
    int bits = 0;
    for (int t : all) {
      bits |= 1 << t;
      if (spare < 0 || now.rare(t) <= now.rare(spare)) {
        spare = t;
      }
    }
    return spare < 0 ? 0 : bits - (1 << spare);
  }

  private int hated(int p) {
    int bits = 0;
    for (int t : now.people.get(p).list.keySet()) {
      for (int q = 0; q < now.people.size(); q++) {
        if (q != p && now.people.get(q).is.contains(t)) {
          bits |= 1 << t;
        }
      }
    }
    return bits;
  }

  private static boolean in(long x, long low, long high) {
    return x >= low && x <= high;
  }

  /** A call by its name, as the document answers it. */
  long call(String name, long[] a) {
    long p = a.length > 0 ? a[0] : 0;
    long q = a.length > 1 ? a[1] : 0;
    long z = a.length > 2 ? a[2] : 0;
    switch (name) {
      case "feed":
        if (tape.length + 20 > 900) {
          return -5;
        }
        int from = tape.length;
        tape = Arrays.copyOf(tape, from + 20);
        for (int i = 0; i < 20; i++) {
          tape[from + i] = (byte) (a[i / 4] >> 24 - 8 * (i % 4));
        }
        return tape.length;
      case "bureau":
        return bureau(p);
      case "fault":
        return p == 0 ? faultKind : p == 1 ? faultPlace : -1;
      case "person":
        if (!now.one(p) || !in(q, 0, 3)) {
          return -2;
        }
        Person who = now.people.get((int) p);
        int is = 0;
        for (int t : who.is) {
          is |= 1 << t;
        }
        return q == 0 ? who.age : q == 1 ? is : q == 2 ? now.bits((int) p) : who.mate;
      case "since":
        if (!now.one(p) || !now.thing(q)) {
          return -2;
        }
        return now.people.get((int) p).list.getOrDefault((int) q, -1);
      case "thing":
        return thing(p, q);
      case "pair":
        if (!now.two(p, q) || !in(z, 0, 5)) {
          return -8;
        }
        if (z == 5) {
          return now.bits((int) p) & now.bits((int) q);
        }
        return now.terms((int) p, (int) q).get(new String[] {"common", "rare", "insult", "lists", "apart"}[(int) z]);
      case "good":
        return now.two(p, q) ? now.good((int) p, (int) q) : FAR;
      case "may":
        return !now.two(p, q) ? -2 : now.may((int) p, (int) q) ? 1 : 0;
      case "count":
        return count(p);
      case "numbers":
        if (!in(p, 0, 3) || !in(q, 0, 3)) {
          return -2;
        }
        if (!in(z, 0, 40)) {
          return -3;
        }
        trays[(int) p] = new long[(int) z];
        sorts[(int) p] = (int) q;
        return 0;
      case "write":
        if (!in(p, 0, 3)) {
          return -2;
        }
        if (trays[(int) p] == null) {
          return -6;
        }
        if (!in(q, 0, trays[(int) p].length - 1)) {
          return -7;
        }
        return trays[(int) p][(int) q] = cut(sorts[(int) p], z);
      case "lists":
        if (!in(p, 0, 3)) {
          return -2;
        }
        if (trays[(int) p] == null) {
          return -6;
        }
        int n = 0;
        while (n < trays[(int) p].length && n < now.people.size()) {
          trays[(int) p][n] = cut(sorts[(int) p], now.bits(n));
          n++;
        }
        return n;
      case "image":
        if (!in(p, 0, 1)) {
          return -2;
        }
        images[(int) p] = now.copy();
        return 0;
      case "restore":
        if (!in(p, 0, 1)) {
          return -2;
        }
        if (images[(int) p] == null) {
          return -5;
        }
        now = images[(int) p].copy();
        past.clear();
        return 0;
      default:
        return in(name, p, q, z);
    }
  }

  private long in(String name, long p, long q, long z) {
    switch (name) {
      case "wed":
      case "part":
      case "takes":
      case "copies":
      case "years":
      case "undo":
      case "judge":
      case "perform":
      case "season":
        return deed(name, p, q);
      case "sharer":
      case "pieced":
      case "child":
      case "houses":
      case "biggest":
      case "peace":
      case "angry":
        return shared(name, p, q);
      default:
        return matched(name, p, q, z);
    }
  }

  private long thing(long t, long what) {
    if (!now.thing(t) || !in(what, 0, 3)) {
      return -2;
    }
    if (what == 0) {
      return now.wanes.get((int) t);
    }
    if (what == 2) {
      return now.rare((int) t);
    }
    int bits = 0;
    for (int x = 0; x < now.people.size(); x++) {
      Person who = now.people.get(x);
      boolean yes = what == 1 ? who.list.containsKey((int) t) : who.is.contains((int) t);
      bits |= yes ? 1 << x : 0;
    }
    return bits;
  }

  private long count(long what) {
    int all = 0;
    for (Person x : now.people) {
      all += x.list.size();
    }
    int[] told = {now.wanes.size(), now.people.size(), now.year, now.pairs(), now.bar, now.room, past.size(),
        tape.length, now.lines, all};
    return in(what, 0, 9) ? told[(int) what] : -1;
  }

  private long deed(String name, long p, long q) {
    World before = now.copy();
    int why;
    switch (name) {
      case "wed":
        if (now.two(p, q) && now.people.get((int) p).mate >= 0) {
          return -12;
        }
        why = now.two(p, q) ? now.wedOrPart((int) p, (int) q) : 1;
        if (why != 0) {
          return -10 - why;
        }
        did(before);
        return now.good((int) p, (int) q);
      case "part":
        if (!now.one(p)) {
          return -2;
        }
        if (now.people.get((int) p).mate < 0) {
          return -5;
        }
        now.people.get(now.people.get((int) p).mate).mate = -1;
        now.people.get((int) p).mate = -1;
        did(before);
        return 0;
      case "takes":
        why = now.one(p) && now.thing(q) ? now.takeOrGive((int) p, (int) q) : 1;
        if (why != 0) {
          return -10 - why;
        }
        did(before);
        return now.people.get((int) p).list.size();
      case "copies":
        if (!now.two(p, q)) {
          return -11;
        }
        now.people.get((int) p).list = new TreeMap<>(now.people.get((int) q).list);
        did(before);
        return now.people.get((int) p).list.size();
      case "years":
        if (!in(p, 1, 60)) {
          return -3;
        }
        int waned = 0;
        for (int i = 0; i < p; i++) {
          waned += now.year();
        }
        did(before);
        return waned;
      case "undo":
        if (!in(p, 1, past.size())) {
          return -3;
        }
        for (int i = 0; i < p; i++) {
          now = past.removeLast();
        }
        return past.size();
      case "season":
        return season((int) p, q);
      default:
        return trayDeed(name, p, q);
    }
  }

  private long trayDeed(String name, long tray, long what) {
    boolean judged = name.equals("judge");
    if (!in(tray, 0, 3) || judged && !in(what, 0, 3)) {
      return -2;
    }
    if (trays[(int) tray] == null) {
      return -6;
    }
    World w = now.copy();
    int done = 0;
    int why = 0;
    for (long v : trays[(int) tray]) {
      why = w.why(v);
      if (why != 0) {
        break;
      }
      done++;
    }
    if (judged) {
      return what == 0 ? (why == 0 ? -1 : done) : what == 1 ? why : what == 2 ? 2 * w.pairs() : w.goodWed();
    }
    if (done > 0) {
      did(now);
      now = w;
    }
    return done;
  }

  private long matched(String name, long p, long q, long z) {
    boolean[][] fit = mayTable();
    int[][] good = goodTable();
    int everybody = 255;
    switch (name) {
      case "matchings":
        if (!in(p, 0, 4)) {
          return -3;
        }
        int n = 0;
        for (int[] m : matchings(everybody, fit)) {
          n += pairsOf(m) == p ? 1 : 0;
        }
        return n;
      case "most":
        return asks(p) ? tell(most(everybody, fit, good), good, p) : -2;
      case "stable":
        return asks(p) ? tell(stable(fit, good), good, p) : -2;
      case "breaks":
        int[] mates = new int[now.people.size()];
        for (int x = 0; x < mates.length; x++) {
          mates[x] = now.people.get(x).mate;
        }
        return breaker(mates, fit, good);
      case "matchAll":
        did(now.copy());
        int[] best = most(everybody, fit, good);
        for (int x = 0; x < best.length; x++) {
          now.people.get(x).mate = best[x];
        }
        return pairsOf(best);
      case "dearest":
        if (!now.one(p)) {
          return -2;
        }
        int dear = -1;
        for (int x = 0; x < now.people.size(); x++) {
          if (fit[(int) p][x] && (dear < 0 || good[(int) p][x] > good[(int) p][dear])) {
            dear = x;
          }
        }
        return dear;
      case "lasting":
        if (!asks(q)) {
          return -2;
        }
        if (!in(p, 0, 40)) {
          return -3;
        }
        for (int x = 0; x < fit.length; x++) {
          for (int y = 0; y < fit.length; y++) {
            fit[x][y] = fit[x][y] && now.holds(x, y) >= p;
          }
        }
        return tell(most(everybody, fit, good), good, q);
      case "holds":
        return now.two(p, q) ? now.holds((int) p, (int) q) : -2;
      case "goodIn":
        return now.two(p, q) && in(z, 0, 60) ? now.inYears((int) p, (int) q, (int) z).good((int) p, (int) q) : FAR;
      case "leftFor":
        return now.two(p, q) && in(z, 0, 1) ? leftFor((int) p, (int) q, z) : -2;
      case "fib":
        return now.two(p, q) && in(z, 0, 1) ? fib((int) p, (int) q, z) : -2;
      default:
        return byYears(name, p, q, z);
    }
  }

  private long byYears(String name, long p, long q, long z) {
    World w = now.copy();
    switch (name) {
      case "later":
        if (!now.one(p)) {
          return -2;
        }
        if (!in(q, 0, 60)) {
          return -3;
        }
        for (int i = 0; i < q; i++) {
          w.year();
        }
        return w.bits((int) p);
      case "byWhen":
        if (!now.one(p) || !now.thing(q)) {
          return -2;
        }
        for (int i = 0; i <= 60; i++) {
          if (w.people.get((int) p).list.containsKey((int) q)) {
            return i;
          }
          w.year();
        }
        return -1;
      case "strikes":
        if (!now.two(p, q) || !now.thing(z)) {
          return FAR;
        }
        w.people.get((int) p).list.remove((int) z);
        w.people.get((int) q).list.remove((int) z);
        return now.good((int) p, (int) q) - w.good((int) p, (int) q);
      default:
        throw new IllegalStateException(name);
    }
  }

  private long shared(String name, long p, long q) {
    int people = now.people.size();
    switch (name) {
      case "sharer":
        if (!now.one(p)) {
          return -2;
        }
        long best = 0;
        int who = -1;
        for (int x = 0; x < people; x++) {
          if (x != p && now.terms((int) p, x).get("rare") > best) {
            best = now.terms((int) p, x).get("rare");
            who = x;
          }
        }
        return who;
      case "pieced":
        return now.one(p) && in(q, 0, 1) ? pieced((int) p, q) : -2;
      case "child":
        return now.two(p, q) ? child((int) p, (int) q) : -2;
      case "houses":
        if (!in(p, 1, 8) || !in(q, 0, 14)) {
          return -3;
        }
        int n = 0;
        for (int s = 1; s < 1 << people; s++) {
          n += Integer.bitCount(s) == p && house(s, q) ? 1 : 0;
        }
        return n;
      case "biggest":
        if (!in(q, 0, 1)) {
          return -2;
        }
        if (!in(p, 0, 14)) {
          return -3;
        }
        for (int size = people; size > 0; size--) {
          for (int s = 1; s < 1 << people; s++) {
            if (Integer.bitCount(s) == size && house(s, p)) {
              return q == 0 ? size : s;
            }
          }
        }
        return 0;
      default:
        int bits = 0;
        for (int x = 0; x < people; x++) {
          bits |= name.equals("peace") ? hated(x) : hated(x) != 0 ? 1 << x : 0;
        }
        return bits;
    }
  }
}
