import java.io.IOException;
import java.lang.reflect.InvocationTargetException;
import java.lang.reflect.Method;
import java.lang.reflect.Modifier;
import java.nio.file.Files;
import java.nio.file.Path;
import java.util.ArrayList;
import java.util.List;
import java.util.regex.Matcher;
import java.util.regex.Pattern;
import java.util.stream.Stream;

/** README.md tells how to use the class: its calls must answer as it says, and it must name all that there is. */
public final class ReadmeTests {
  private static final Pattern BLOCK = Pattern.compile("(?s)```java\n(.*?)```");
  private static final Pattern CALL = Pattern.compile("x\\.(\\w+)\\((.*?)\\); +// (-?\\d+)(:.*)?");
  private static final Pattern TOLD = Pattern.compile("tell\\(x, \"(.*?)\"\\); +// (-?\\d+)(:.*)?");
  private static final String BEGIN = "LoatheMatch x = new LoatheMatch();";

  private final Checks checks = new Checks();
  private final String readme;

  private ReadmeTests(String readme) {
    this.readme = readme;
  }

  private List<String> blocks() {
    List<String> blocks = new ArrayList<>();
    Matcher m = BLOCK.matcher(readme);
    while (m.find()) {
      blocks.add(m.group(1));
    }
    return blocks;
  }

  private static Method publicMethod(String name) {
    for (Method m : LoatheMatch.class.getDeclaredMethods()) {
      if (Modifier.isPublic(m.getModifiers()) && m.getName().equals(name)) {
        return m;
      }
    }
    throw new IllegalArgumentException("README.md calls " + name + ", which isn't there");
  }

  private static long call(LoatheMatch x, String name, String told) throws IllegalAccessException, InvocationTargetException {
    String[] words = told.isEmpty() ? new String[0] : told.split(", ");
    Method m = publicMethod(name);
    Object[] args = new Object[words.length];
    for (int i = 0; i < words.length; i++) {
      long value = Long.decode(words[i]);
      args[i] = m.getParameterTypes()[i] == long.class ? (Object) value : (Object) (int) value;
    }
    return ((Number) m.invoke(x, args)).longValue();
  }

  /** Each row of the example but its first is a call with its answer. */
  private void example(String block) throws IllegalAccessException, InvocationTargetException {
    LoatheMatch x = new LoatheMatch();
    int calls = 0;
    for (String row : block.split("\n")) {
      Matcher call = CALL.matcher(row);
      Matcher told = TOLD.matcher(row);
      if (call.matches()) {
        checks.due(row, call(x, call.group(1), call.group(2)), Long.parseLong(call.group(3)));
        calls++;
      } else if (told.matches()) {
        checks.due(row, Checks.tell(x, told.group(1)), Long.parseLong(told.group(2)));
        calls++;
      } else {
        checks.due("a row of README.md that is no call: " + row, row.equals(BEGIN) ? 1 : 0, 1);
      }
    }
    checks.due("README.md has an example", calls > 0 ? 1 : 0, 1);
  }

  /** The page shows the functions by which these tests feed a text. */
  private void feeding(String block) throws IOException {
    String source = smooth(Files.readString(Path.of("src/test/java/Checks.java")));
    for (String function : block.split("\n\n")) {
      checks.due("in Checks.java: " + function, source.contains(smooth(function)) ? 1 : 0, 1);
    }
  }

  private static String smooth(String text) {
    return text.replaceAll("\\s+", " ").trim();
  }

  private void names() throws IOException {
    for (Method m : LoatheMatch.class.getDeclaredMethods()) {
      if (Modifier.isPublic(m.getModifiers())) {
        checks.due("README.md names " + m.getName(), readme.contains("`" + m.getName() + "`") ? 1 : 0, 1);
      }
    }
    for (Class<?> inside : LoatheMatch.class.getDeclaredClasses()) {
      checks.due("README.md names " + inside.getSimpleName(), readme.contains("`" + inside.getSimpleName() + "`") ? 1 : 0, 1);
    }
    try (Stream<Path> files = Files.list(Path.of("src/test/java"))) {
      for (Path file : (Iterable<Path>) files::iterator) {
        String name = file.getFileName().toString().replace(".java", "");
        if (name.endsWith("Tests")) {
          checks.due("README.md names " + name, readme.contains("`" + name + "`") ? 1 : 0, 1);
        }
      }
    }
    checks.due("README.md tells how tests are run", readme.contains("    .ci/run\n") ? 1 : 0, 1);
  }

  public static void main(String[] args) throws IOException, IllegalAccessException, InvocationTargetException {
    ReadmeTests tests = new ReadmeTests(Files.readString(Path.of("README.md")));
    List<String> blocks = tests.blocks();
    tests.checks.due("blocks of code in README.md", blocks.size(), 2);
    if (blocks.size() == 2) {
      tests.feeding(blocks.get(0));
      tests.example(blocks.get(1));
    }
    tests.names();
    tests.checks.end("README.md");
  }
}
