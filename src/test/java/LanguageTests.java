import java.io.IOException;
import java.lang.reflect.Method;
import java.lang.reflect.Modifier;
import java.nio.file.Files;
import java.nio.file.Path;
import java.util.Set;
import java.util.TreeSet;
import java.util.regex.Matcher;
import java.util.regex.Pattern;

/** What of ../shared/LANGUAGE.md can be seen in the program's text and its face. */
public final class LanguageTests {
  private static final String[] FORBIDDEN = {
    "\\bthrow\\b", "\\bthrows\\b", "\\btry\\b", "\\bcatch\\b", "\\bsynchronized\\b", "\\bassert\\b", "->", "::", "\\bpackage\\b",
    "\\bimport\\b", "\\bprotected\\b", "\\bObject\\b", "\\bstatic\\s*\\{", "\\bMIN_VALUE\\b", "\\bMAX_VALUE\\b", "Exact\\b",
    "\\bjava\\.", "\\bnew\\s+\\w+\\s*\\([^)]*\\)\\s*\\{", "\\[\\]\\s*\\[\\]", "\\bwhile\\s*\\(true\\)", "\\bfor\\s*\\(;;\\)"};
  private static final String[] FACE = {
    "feed", "bureau", "fault", "person", "since", "thing", "pair", "good", "may", "wed", "part", "takes", "copies", "years",
    "undo", "judge", "perform", "season", "matchings", "most", "stable", "breaks", "matchAll", "dearest", "holds", "goodIn",
    "lasting", "later", "byWhen", "leftFor", "fib", "strikes", "sharer", "pieced", "child", "houses", "biggest", "peace",
    "angry", "numbers", "write", "lists", "image", "restore", "count"};

  private static final Checks CHECKS = new Checks();

  private static void lookAtText(String source) {
    String code = source.replaceAll("(?s)/\\*.*?\\*/", "").replaceAll("//[^\n]*", "").replaceAll("\"[^\"\n]*\"", "\"\"");
    for (String pattern : FORBIDDEN) {
      Matcher m = Pattern.compile(pattern).matcher(code);
      CHECKS.due("the program has " + pattern, m.find() ? 1 : 0, 0);
    }
    for (char c : source.toCharArray()) {
      if (c > 126) {
        CHECKS.due("a sign above 126", c, 0);
      }
    }
    int longest = 0;
    int from = 0;
    String[] lines = code.split("\n");
    for (int i = 0; i < lines.length; i++) {
      if (lines[i].matches(" {2,4}[\\w\\[\\] ]+\\(.*\\) \\{")) {
        from = i;
      }
      if (lines[i].matches(" {2,4}\\}")) {
        longest = Math.max(longest, i - from);
      }
    }
    CHECKS.due("a method is too long", Math.max(longest, 60), 60);
  }

  private static void lookAtFace() {
    Set<String> face = new TreeSet<>(Set.of(FACE));
    Set<String> open = new TreeSet<>();
    for (Method m : LoatheMatch.class.getDeclaredMethods()) {
      if (!Modifier.isPrivate(m.getModifiers())) {
        CHECKS.due(m.getName() + " is public", Modifier.isPublic(m.getModifiers()) ? 1 : 0, 1);
        open.add(m.getName());
      } else {
        CHECKS.due(m.getName() + " bears a public name", face.contains(m.getName()) ? 1 : 0, 0);
      }
    }
    CHECKS.due("the face: " + open, open.equals(face) ? 1 : 0, 1);
    CHECKS.due("classes", Math.max(LoatheMatch.class.getDeclaredClasses().length + 1, 12), 12);
    for (Class<?> inside : LoatheMatch.class.getDeclaredClasses()) {
      CHECKS.due(inside + " is static", Modifier.isStatic(inside.getModifiers()) ? 1 : 0, 1);
      for (Method m : inside.getDeclaredMethods()) {
        CHECKS.due(m + " bears a public name", face.contains(m.getName()) ? 1 : 0, 0);
        CHECKS.due(m + " has more than seven parameters", Math.max(m.getParameterCount(), 7), 7);
      }
      CHECKS.due(inside + " fields", Math.max(fields(inside), 20), 20);
    }
    CHECKS.due("fields", Math.max(fields(LoatheMatch.class), 20), 20);
  }

  private static int fields(Class<?> of) {
    int n = 0;
    for (java.lang.reflect.Field f : of.getDeclaredFields()) {
      boolean constant = Modifier.isStatic(f.getModifiers());
      CHECKS.due(f + " is static and not final", constant && !Modifier.isFinal(f.getModifiers()) ? 1 : 0, 0);
      CHECKS.due(f + " is seen", of == LoatheMatch.class && !f.getName().equals("NONE")
          && !Modifier.isPrivate(f.getModifiers()) ? 1 : 0, 0);
      n += constant ? 0 : 1;
    }
    return n;
  }

  public static void main(String[] args) throws IOException {
    lookAtText(Files.readString(Path.of("src/main/java/LoatheMatch.java")));
    lookAtFace();
    CHECKS.end("the language");
  }
}
