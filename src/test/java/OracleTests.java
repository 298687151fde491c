import java.lang.reflect.InvocationTargetException;
import java.lang.reflect.Method;
import java.util.HashMap;
import java.util.Map;
import java.util.Random;

/** Runs of calls by chance, on the program and on Naive: every answer must be the same. */
public final class OracleTests {
  private static final String[] NAMES = {
    "fault", "person", "since", "thing", "pair", "good", "may", "wed", "part", "takes", "copies", "years", "undo",
    "judge", "perform", "season", "matchings", "most", "stable", "breaks", "matchAll", "dearest", "holds", "goodIn",
    "lasting", "later", "byWhen", "leftFor", "fib", "strikes", "sharer", "pieced", "child", "houses", "biggest",
    "peace", "angry", "numbers", "write", "lists", "image", "restore", "count"};

  private final Map<String, Method> methods = new HashMap<>();
  private final Map<String, Integer> answered = new HashMap<>();
  private final Random random;
  private LoatheMatch program;
  private Naive naive;
  private StringBuilder told;
  private int calls;
  private int wrong;

  private OracleTests(long seed) {
    random = new Random(seed);
    for (Method m : LoatheMatch.class.getDeclaredMethods()) {
      if (java.lang.reflect.Modifier.isPublic(m.getModifiers())) {
        methods.put(m.getName(), m);
      }
    }
  }

  private long ask(String name, long... a) throws IllegalAccessException, InvocationTargetException {
    Method m = methods.get(name);
    Object[] args = new Object[a.length];
    for (int i = 0; i < a.length; i++) {
      args[i] = m.getParameterTypes()[i] == long.class ? (Object) a[i] : (Object) (int) a[i];
    }
    long got = ((Number) m.invoke(program, args)).longValue();
    long due = naive.call(name, a);
    calls++;
    told.append(name).append(java.util.Arrays.toString(a)).append(" = ").append(got).append('\n');
    if (due >= 0) {
      answered.merge(name, 1, Integer::sum);
    }
    if (got != due) {
      wrong++;
      System.out.println(told + "due is " + due);
    }
    return got;
  }

  private int upTo(int n) {
    return random.nextInt(n + 1);
  }

  private boolean chance(int percent) {
    return random.nextInt(100) < percent;
  }

  private String blank() {
    return chance(90) ? " " : chance(50) ? "\n" : "  \n";
  }

  private String tight() {
    return chance(50) ? "" : blank();
  }

  private String atom(int depth) {
    if (depth > 0 && chance(20)) {
      return "(" + tight() + sum(depth - 1) + tight() + ")";
    }
    if (chance(30)) {
      return String.valueOf(chance(10) ? upTo(999) : upTo(12));
    }
    return new String[] {"common", "rare", "rare", "insult", "lists", "apart", "oldest", "year"}[upTo(7)];
  }

  private String sum(int depth) {
    StringBuilder s = new StringBuilder(atom(depth));
    for (int i = upTo(3); i > 0; i--) {
      s.append(tight()).append("+-*+-".charAt(upTo(4))).append(tight()).append(atom(depth));
    }
    return s.toString();
  }

  private String unit(int depth) {
    if (depth > 0 && chance(20)) {
      return "not " + unit(depth - 1);
    }
    if (depth > 0 && chance(20)) {
      return "[" + tight() + truth(depth - 1) + tight() + "]";
    }
    return sum(depth) + tight() + "=<><>".charAt(upTo(4)) + tight() + sum(depth);
  }

  private String truth(int depth) {
    StringBuilder s = new StringBuilder(unit(depth));
    for (int i = upTo(2); i > 0; i--) {
      s.append(chance(50) ? " or " : " and ").append(unit(depth));
    }
    return s.toString();
  }

  private String things(String word, int things) {
    StringBuilder s = new StringBuilder(" ").append(word);
    for (int i = 1 + upTo(chance(20) ? 8 : 3); i > 0; i--) {
      s.append(blank()).append(upTo(things - 1));
    }
    return s.toString();
  }

  private String law() {
    switch (upTo(5)) {
      case 0:
        return "good" + tight() + ":" + tight() + sum(3) + tight() + ";";
      case 1:
        return "may" + tight() + ":" + tight() + truth(3) + tight() + ";";
      case 2:
        return "may : apart < " + upTo(40) + ";";
      case 3:
        return "bar " + (chance(80) ? upTo(12) : upTo(999)) + ";";
      case 4:
        return "room " + (1 + upTo(13)) + ";";
      default:
        return "good : rare" + (chance(50) ? " - insult" : " * 2 - lists") + ";";
    }
  }

  private String text() {
    StringBuilder s = new StringBuilder();
    int things = chance(10) ? 14 : chance(5) ? 0 : 1 + upTo(6);
    int people = chance(30) ? 8 : chance(5) ? 0 : 2 + upTo(5);
    for (int t = 0; t < things; t++) {
      s.append("thing").append(chance(40) ? " wanes " + (1 + upTo(chance(80) ? 6 : 98)) : "").append(tight()).append(";");
    }
    for (int p = 0; p < people; p++) {
      s.append(chance(20) ? law() : "").append("person age").append(blank()).append(upTo(99));
      s.append(things > 0 && chance(50) ? things("is", things) : "");
      s.append(things > 0 && chance(85) ? things("loathes", things) : "").append(";");
    }
    for (int i = upTo(4); i > 0; i--) {
      s.append(law()).append(tight());
    }
    for (int i = chance(25) ? 1 + upTo(1) : 0; i > 0 && s.length() > 0; i--) {
      mar(s);
    }
    return s.length() > 900 ? s.substring(0, 900) : s.toString();
  }

  private void mar(StringBuilder s) {
    int at = upTo(s.length() - 1);
    String[] bits = {"", ";", "(", ")", "[", "]", "not ", " not not not ", "thing", "person ", "9", "1000", " 7 ", ",", "A",
        " is ", "age", " wanes ", ":", "=", "+", "(((((((", "[[[", "\t", "\u00e9", "thing;person age 1;"};
    if (chance(40)) {
      s.deleteCharAt(at);
    } else if (chance(20)) {
      s.setLength(at);
    } else {
      s.insert(at, bits[upTo(bits.length - 1)]);
    }
  }

  private void tell(String text) throws IllegalAccessException, InvocationTargetException {
    told.append("text: ").append(text).append('\n');
    for (int i = 0; i < text.length(); i += 20) {
      long[] five = new long[5];
      for (int j = 0; j < 20; j++) {
        int c = i + j < text.length() ? text.charAt(i + j) : chance(99) ? ' ' : 'x';
        five[j / 4] = (int) (five[j / 4] << 8 | c);
      }
      ask("feed", five);
    }
    long n = chance(97) ? text.length() : chance(50) ? text.length() + upTo(30) : -upTo(1);
    ask("bureau", n);
    ask("fault", 0);
    ask("fault", 1);
  }

  private long argument(int place, String name) {
    if (chance(2)) {
      return new long[] {Integer.MAX_VALUE, Integer.MIN_VALUE, 1L << 31 - 1, -2, -100, 1000, 15, 61, 41}[upTo(8)];
    }
    switch (name) {
      case "years":
      case "later":
      case "goodIn":
        return place == (name.equals("years") ? 0 : name.equals("later") ? 1 : 2) ? upTo(chance(80) ? 6 : 62) : upTo(7);
      case "lasting":
        return place == 0 ? upTo(chance(70) ? 3 : 41) : chance(50) ? upTo(2) : 10 + upTo(8);
      case "most":
      case "stable":
        return chance(50) ? upTo(2) : 10 + upTo(8);
      case "season":
        return place == 0 ? random.nextInt() : upTo(chance(80) ? 8 : 41);
      case "undo":
        return chance(80) ? 1 + upTo(2) : upTo(9);
      case "numbers":
        return place == 2 ? upTo(chance(90) ? 12 : 41) : upTo(chance(90) ? 3 : 4);
      case "write":
        return place == 2 ? number() : place == 1 ? upTo(12) : upTo(3);
      case "judge":
      case "perform":
      case "lists":
        return upTo(chance(95) ? 3 : 4);
      case "image":
      case "restore":
        return upTo(chance(95) ? 1 : 2);
      case "count":
        return upTo(10) - (chance(5) ? 1 : 0);
      case "takes":
      case "since":
      case "byWhen":
      case "strikes":
        return place == 0 || place == 1 && name.equals("strikes") ? upTo(7) : upTo(chance(80) ? 6 : 14);
      case "houses":
        return place == 0 ? 1 + upTo(4) : upTo(4);
      case "thing":
        return place == 0 ? upTo(6) : upTo(4);
      case "pair":
        return place == 2 ? upTo(6) : upTo(7);
      case "person":
        return place == 0 ? upTo(7) : upTo(4);
      case "pieced":
        return place == 0 ? upTo(7) : upTo(1);
      case "leftFor":
      case "fib":
        return place == 2 ? upTo(1) : upTo(7);
      case "biggest":
        return place == 0 ? upTo(4) : upTo(1);
      case "matchings":
        return upTo(5);
      default:
        return upTo(chance(95) ? 5 : 8);
    }
  }

  private long number() {
    switch (upTo(6)) {
      case 0:
        return -1;
      case 1:
      case 2:
        return 100 * upTo(chance(50) ? 3 : 8) + upTo(chance(50) ? 3 : 14);
      case 3:
        return 1000 + 100 * upTo(6) + upTo(6);
      case 4:
        return 2000 + 100 * upTo(6) + upTo(6);
      case 5:
        return chance(70) ? 100 * upTo(3) + upTo(5) : upTo(4000);
      default:
        return chance(80) ? -1 : random.nextLong();
    }
  }

  /** A tray of deeds that are likely to be possible. */
  private void fillTray() throws IllegalAccessException, InvocationTargetException {
    int tray = upTo(3);
    int n = 1 + upTo(6);
    ask("numbers", tray, 1 + upTo(2), n);
    for (int i = 0; i < n; i++) {
      ask("write", tray, i, number());
    }
    for (int what = 0; what < 4; what++) {
      ask("judge", tray, what);
    }
    ask("perform", tray);
  }

  private void look() throws IllegalAccessException, InvocationTargetException {
    for (int what = 0; what <= 10; what++) {
      ask("count", what);
    }
    for (int p = 0; p < 8; p++) {
      for (int what = 0; what < 4; what++) {
        ask("person", p, what);
      }
    }
  }

  private void run() throws IllegalAccessException, InvocationTargetException {
    program = new LoatheMatch();
    naive = new Naive();
    told = new StringBuilder();
    tell(text());
    int length = 40 + upTo(120);
    for (int i = 0; i < length && wrong == 0; i++) {
      if (chance(1)) {
        tell(text());
      } else if (chance(3)) {
        fillTray();
      } else if (chance(2)) {
        look();
      } else if (chance(5)) {
        ask("wed", upTo(7), upTo(7));
      } else {
        String name = NAMES[upTo(NAMES.length - 1)];
        long[] a = new long[methods.get(name).getParameterCount()];
        for (int j = 0; j < a.length; j++) {
          a[j] = argument(j, name);
        }
        ask(name, a);
      }
    }
  }

  public static void main(String[] args) throws IllegalAccessException, InvocationTargetException {
    long seed = args.length > 0 ? Long.parseLong(args[0]) : 20261118L;
    int runs = args.length > 1 ? Integer.parseInt(args[1]) : 600;
    OracleTests tests = new OracleTests(seed);
    for (int i = 0; i < runs && tests.wrong == 0; i++) {
      tests.run();
    }
    for (String name : NAMES) {
      if (tests.answered.getOrDefault(name, 0) < (runs + 9) / 10) {
        tests.wrong++;
        System.out.println(name + " was answered too seldom: " + tests.answered.get(name));
      }
    }
    System.out.println(tests.calls + " calls compared with Naive, " + tests.wrong + " wrong");
    System.exit(tests.wrong == 0 ? 0 : 1);
  }
}
