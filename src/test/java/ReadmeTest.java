import java.io.IOException;
import java.lang.reflect.Method;
import java.lang.reflect.Modifier;
import java.nio.charset.StandardCharsets;
import java.nio.file.Files;
import java.nio.file.Path;
import java.util.ArrayList;
import java.util.List;
import java.util.Map;
import java.util.regex.Matcher;
import java.util.regex.Pattern;
import java.util.stream.Stream;

/** What README.md says is so: its example compiles and answers as told; it names every call and every test. */
public final class ReadmeTest {
  private static final String NAME = "Example";
  private static final String CODE = "```java\n";
  private static final Pattern ANSWERED = Pattern.compile("(x\\.\\w+\\(.*\\)); +// (-?\\d+)\\b.*");

  public static void main(String[] args) throws Exception {
    Path root = Path.of(System.getProperty("project.root", "."));
    String readme = Files.readString(root.resolve("README.md"), StandardCharsets.UTF_8);
    example(readme);
    namesEveryCall(readme);
    namesEveryTest(readme, root);
    Check.end();
  }

  private static void example(String readme) throws Exception {
    int start = readme.indexOf(CODE);
    int end = readme.indexOf("\n```", start + CODE.length());
    Check.isTrue("an example", start >= 0 && end >= 0);
    if (start < 0 || end < 0) return;
    List<String> calls = new ArrayList<>();
    List<Long> told = new ArrayList<>();
    StringBuilder body = new StringBuilder();
    for (String line : readme.substring(start + CODE.length(), end).split("\n")) {
      Matcher answered = ANSWERED.matcher(line);
      if (answered.matches()) {
        body.append("all.add((long) ").append(answered.group(1)).append(");\n");
        calls.add(answered.group(1));
        told.add(Long.valueOf(answered.group(2)));
      } else {
        body.append(line).append("\n");
      }
    }
    Check.isTrue("calls in the example", !calls.isEmpty());
    List<?> answers = answersOf(body.toString());
    Check.due("answers of the example", answers.size(), told.size());
    for (int i = 0; i < answers.size() && i < told.size(); i++) {
      Check.due("README.md: " + calls.get(i), (Long) answers.get(i), told.get(i));
    }
  }

  private static List<?> answersOf(String body) throws Exception {
    String list = "java.util.List<Long>";
    String source = "public final class " + NAME + " { public static " + list + " answers() { " + list
        + " all = new java.util.ArrayList<>();\n" + body + "return all; } }";
    Map<String, byte[]> classes = Compiled.classes(NAME, source);
    Check.isTrue("the example compiles", !classes.isEmpty());
    if (classes.isEmpty()) return List.of();
    return (List<?>) new Compiled.Room(classes).loadClass(NAME).getMethod("answers").invoke(null);
  }

  private static void namesEveryCall(String readme) {
    for (Method m : UpWhenDies.class.getDeclaredMethods()) {
      if (!Modifier.isPublic(m.getModifiers())) continue;
      String row = "(?s).*\n\\| `" + m.getName() + "\\(" + ", \\w+".repeat(m.getParameterCount()).replaceFirst(", ", "")
          + "\\)` \\| .*";
      Check.isTrue("README.md tells of " + m.getName(), readme.matches(row));
    }
  }

  private static void namesEveryTest(String readme, Path root) throws IOException {
    Check.isTrue("README.md names .ci/run", readme.contains(".ci/run"));
    try (Stream<Path> files = Files.list(root.resolve("src/test/java"))) {
      for (Path file : files.toList()) {
        String name = file.getFileName().toString().replace(".java", "");
        if (name.endsWith("Test")) Check.isTrue("README.md names " + name, readme.contains("`" + name + "`"));
      }
    }
  }
}
