import java.io.IOException;
import java.nio.file.Files;
import java.nio.file.Path;
import java.util.BitSet;
import java.util.LinkedHashMap;
import java.util.Map;
import java.util.function.Supplier;
import java.util.function.ToLongFunction;
import java.util.regex.Matcher;
import java.util.regex.Pattern;

/** Tests of sentences: each test names the sentence of the document that it stands for, as it is written there. */
final class Edges {
  /** What shows that a sentence of a promise, or of the terms, names an edge. */
  private static final Pattern EDGE_OF_PROMISE =
      Pattern.compile("(?<![\\w-])-\\d[\\d,]*|\\bNONE\\b|\\d+ to \\d+|\\(0\\)|the first\\b|the least\\b|never|though");
  private static final Pattern EDGE_OF_TERMS = Pattern.compile("(?<![\\w-])-\\d[\\d,]*|\\d+ to \\d+|at most|at first|without"
      + "|never|or more|aside|alone|of like ones|the first\\b|the least\\b|the fewest|forgotten|\\(\\d+\\)|told ahead|MISSING"
      + "|all at once|both ways|twice|no room|strike\\b|an empty one");

  private final Checks checks = new Checks();
  private final Map<String, String> sections = new LinkedHashMap<>();
  private final Map<String, BitSet> quoted = new LinkedHashMap<>();
  private String label = "";
  private int checksOfSentence = 1;

  Edges() throws IOException {
    Path doc = Path.of("../shared/DOC.md");
    if (Files.exists(doc)) {
      cutIntoSections(Files.readString(doc));
    }
  }

  private void cutIntoSections(String doc) {
    for (String part : doc.split("(?m)^## ")) {
      String head = part.lines().findFirst().orElse("");
      String name = head.startsWith("Promise") ? head.substring(0, head.indexOf(':')) : head;
      sections.put(name, smooth(part.substring(head.length())));
      quoted.put(name, new BitSet());
    }
  }

  private static String smooth(String text) {
    return text.replaceAll("\\s+", " ");
  }

  /** Begins a test: the sentence must stand in the document under this heading. */
  void of(String heading, String sentence) {
    checks.due(label + ": has no check", checksOfSentence > 0 ? 0 : 1, 0);
    checksOfSentence = 0;
    label = heading + ": '" + sentence + "'";
    String section = sections.get(heading);
    if (section != null) {
      int at = section.indexOf(smooth(sentence));
      checks.due(label + " stands in the document", at >= 0 ? 1 : 0, 1);
      if (at >= 0) {
        quoted.get(heading).set(at, at + smooth(sentence).length());
      }
    }
  }

  void promise(int number, String sentence) {
    of("Promise " + number, sentence);
  }

  void due(String call, long got, long want) {
    checksOfSentence++;
    checks.due(label + " " + call, got, want);
  }

  /** A text's fault and its place; kind 0: a sound text of so many lines. */
  void text(String text, int kind, int placeOrLines) {
    LoatheMatch x = new LoatheMatch();
    int answer = Checks.tell(x, text);
    String name = "'" + text + "'";
    due("bureau of " + name, answer, kind == 0 ? placeOrLines : -30 - kind);
    due("fault(0) of " + name, x.fault(0), kind);
    due("fault(1) of " + name, x.fault(1), kind == 0 ? -1 : placeOrLines);
  }

  /** A call that is refused: its code, and nothing changes. */
  void refused(Supplier<LoatheMatch> start, String call, ToLongFunction<LoatheMatch> made, long code) {
    LoatheMatch x = start.get();
    due(call, made.applyAsLong(x), code);
    String before = all(start.get());
    String after = all(x);
    due(call + " changes nothing: " + (before.equals(after) ? "" : before + " became " + after),
        before.equals(after) ? 1 : 0, 1);
  }

  /** All that an object can tell; it is spent by that. */
  private static String all(LoatheMatch x) {
    StringBuilder told = new StringBuilder(seen(x));
    for (int i = 0; i < 8 && x.count(6) > 0; i++) {
      told.append(" undo ").append(x.undo(1)).append(lives(x));
    }
    told.append(" tape ").append(x.bureau(x.count(7))).append(x.fault(0)).append(x.fault(1)).append(x.count(4));
    for (int i = 0; i < 2; i++) {
      told.append(" restore ").append(x.restore(i)).append(lives(x));
    }
    return told.toString();
  }

  private static String seen(LoatheMatch x) {
    StringBuilder told = new StringBuilder(lives(x));
    told.append(" fault ").append(x.fault(0)).append(' ').append(x.fault(1));
    for (int tray = 0; tray < 4; tray++) {
      for (int what = 0; what < 4; what++) {
        told.append(' ').append(x.judge(tray, what));
      }
    }
    return told.toString();
  }

  private static String lives(LoatheMatch x) {
    StringBuilder told = new StringBuilder("counts");
    for (int what = 0; what < 10; what++) {
      told.append(' ').append(x.count(what));
    }
    int things = x.count(0);
    int people = x.count(1);
    for (int p = 0; p < people; p++) {
      told.append(" person");
      for (int what = 0; what < 4; what++) {
        told.append(' ').append(x.person(p, what));
      }
      for (int t = 0; t < things; t++) {
        told.append(' ').append(x.since(p, t));
      }
    }
    told.append(" laws ").append(x.good(0, 1)).append(' ').append(x.may(0, 1));
    return told.toString();
  }

  /** Looks whether each edge that the document names is within a sentence that has a test. */
  private void lookForUntested() {
    for (Map.Entry<String, String> section : sections.entrySet()) {
      boolean promise = section.getKey().startsWith("Promise");
      if (promise || section.getKey().equals("Terms")) {
        Matcher edge = (promise ? EDGE_OF_PROMISE : EDGE_OF_TERMS).matcher(section.getValue());
        while (edge.find()) {
          boolean tested = quoted.get(section.getKey()).get(edge.start());
          String around = section.getValue().substring(Math.max(0, edge.start() - 30),
              Math.min(section.getValue().length(), edge.end() + 30));
          checks.due(section.getKey() + ": an edge has no test: .." + around + "..", tested ? 1 : 0, 1);
        }
      }
    }
  }

  void end(String what) {
    lookForUntested();
    checks.end(what);
  }
}
