import java.lang.reflect.Constructor;
import java.lang.reflect.Field;
import java.lang.reflect.Method;
import java.lang.reflect.Modifier;
import java.nio.charset.StandardCharsets;
import java.nio.file.Files;
import java.nio.file.Path;
import java.util.Arrays;
import java.util.HashSet;
import java.util.Map;
import java.util.Set;
import java.util.TreeMap;
import java.util.TreeSet;
import java.util.regex.Matcher;
import java.util.regex.Pattern;

/** The class's face is the document's, and its text keeps to what of ../shared/LANGUAGE.md can be seen so. */
public final class LanguageTest {
  private static final String[] FACE = {
    "int letter(int)", "int house()", "int enter(int,int,int)", "int lodger(int,int)", "int wish(int,int)",
    "int year(int)", "int on(int)", "long likely(int,int,int,int)", "int mean()", "int deaths(int,int,int)",
    "int stuck()", "int safe(int)", "int carried(int)", "int leastCarried()", "int rings()", "int changing()",
    "int free()", "int ages(int,int)", "int row(int)", "int fitting(int)", "int judge()", "int lots(int,int)",
    "int image()", "int back()", "int count(int)"};

  private static final String[] FORBIDDEN = {"throw", "throws", "try", "catch", "finally", "synchronized", "assert",
    "package", "Random", "Thread", "hashCode", "native", "volatile", "transient", "strictfp", "protected"};

  private static final Set<String> LIBRARY = Set.of("ArrayList", "List", "Iterator", "Arrays");
  private static final int DEEPEST_CALLS = 8;
  private static final Pattern METHOD =
      Pattern.compile("\n( {2}| {4})(?:(?:private|public|static) )*[\\w\\[\\]]+ (\\w+)\\([^)]*\\) \\{");
  private static final Pattern CALL = Pattern.compile("\\b(\\w+)\\(");

  public static void main(String[] args) throws Exception {
    face();
    insideClasses();
    text(Files.readString(Path.of(System.getProperty("project.root", "."), "src/main/java/UpWhenDies.java"),
        StandardCharsets.ISO_8859_1));
    Check.end();
  }

  private static String told(Method m) {
    StringBuilder s = new StringBuilder(m.getReturnType() + " " + m.getName() + "(");
    for (int i = 0; i < m.getParameterCount(); i++) s.append(i > 0 ? "," : "").append(m.getParameterTypes()[i]);
    return s.append(")").toString();
  }

  private static void face() {
    Class<?> c = UpWhenDies.class;
    Check.isTrue("public and final", Modifier.isPublic(c.getModifiers()) && Modifier.isFinal(c.getModifiers()));
    Constructor<?>[] constructors = c.getDeclaredConstructors();
    Check.due("constructors", constructors.length, 1);
    Check.isTrue("public", Modifier.isPublic(constructors[0].getModifiers()));
    Check.due("its parameters", constructors[0].getParameterCount(), 0);
    Set<String> open = new TreeSet<>();
    Set<String> names = new HashSet<>();
    for (Method m : c.getDeclaredMethods()) {
      if (m.isSynthetic() || Modifier.isPrivate(m.getModifiers())) continue;
      Check.isTrue(m + " is public and no more", Modifier.toString(m.getModifiers()).equals("public"));
      open.add(told(m));
      names.add(m.getName());
    }
    Check.isTrue("face " + open, open.equals(new TreeSet<>(Set.of(FACE))));
    for (Method m : c.getDeclaredMethods()) {
      if (!Modifier.isPrivate(m.getModifiers())) continue;
      Check.isTrue(m + " has a name of its own", !names.contains(m.getName()));
    }
    fields(c, true);
  }

  private static void fields(Class<?> c, boolean outer) {
    int many = 0;
    for (Field f : c.getDeclaredFields()) {
      int m = f.getModifiers();
      if (outer) Check.isTrue(f + " is private", Modifier.isPrivate(m));
      if (Modifier.isStatic(m)) Check.isTrue(f + " is a constant", Modifier.isFinal(m));
      else many++;
    }
    Check.isTrue(c + " has at most twenty fields", many <= 20);
  }

  private static void insideClasses() {
    Class<?>[] inside = UpWhenDies.class.getDeclaredClasses();
    Check.isTrue("at most twelve classes", inside.length < 12);
    for (Class<?> c : inside) {
      Check.isTrue(c + " is static", Modifier.isStatic(c.getModifiers()));
      Check.isTrue(c + " is not open", !Modifier.isPublic(c.getModifiers()) && !Modifier.isProtected(c.getModifiers()));
      Check.due(c + " has none inside", c.getDeclaredClasses().length, 0);
      for (Method m : c.getDeclaredMethods()) Check.isTrue(m + " takes at most seven", m.getParameterCount() <= 7);
      fields(c, false);
    }
  }

  private static void text(String source) {
    String bare = source.replaceAll("/\\*(?s:.*?)\\*/", " ").replaceAll("//[^\n]*", " ");
    Set<String> words = new HashSet<>(Arrays.asList(bare.split("[^A-Za-z0-9_]+")));
    for (String word : FORBIDDEN) Check.isTrue("without " + word, !words.contains(word));
    Check.isTrue("no lambda, no method reference", !bare.contains("->") && !bare.contains("::"));
    Check.isTrue("no function whose name ends in Exact", !bare.contains("Exact("));
    Check.isTrue("of System arraycopy alone", !bare.replace("System.arraycopy", "").matches("(?s).*\\bSystem\\b.*"));
    Matcher imported = Pattern.compile("\\bimport\\b\\s*([^;]*);").matcher(bare);
    while (imported.find()) {
      String name = imported.group(1).trim();
      Check.isTrue("import of " + name, name.startsWith("java.util.") && LIBRARY.contains(name.substring(10)));
    }
    for (char sign : source.toCharArray()) {
      if (sign > 127 || sign < 32 && sign != '\n') Check.isTrue("no sign " + (int) sign, false);
    }
    methodLengths(bare);
    callDepths(bare);
  }

  // Methods of one name count as one, so that a way of calls is told rather too deep than too shallow.
  private static void callDepths(String bare) {
    Map<String, Set<String>> calls = new TreeMap<>();
    Matcher method = METHOD.matcher(bare);
    while (method.find()) {
      int end = bare.indexOf("\n" + method.group(1) + "}", method.end());
      Set<String> called = calls.computeIfAbsent(method.group(2), name -> new TreeSet<>());
      Matcher call = CALL.matcher(bare.substring(method.end(), end));
      while (call.find()) called.add(call.group(1));
    }
    for (String called : FACE) {
      String name = called.substring(called.indexOf(' ') + 1, called.indexOf('('));
      Check.isTrue("found: " + name, calls.containsKey(name));
      int depth = depth(name, calls, 0);
      Check.isTrue(name + " calls at most eight deep, not " + depth, depth <= DEEPEST_CALLS);
    }
  }

  private static int depth(String name, Map<String, Set<String>> calls, int above) {
    int deepest = above + 1;
    if (above > 2 * DEEPEST_CALLS) return deepest;
    for (String called : calls.get(name)) {
      if (calls.containsKey(called)) deepest = Math.max(deepest, depth(called, calls, above + 1));
    }
    return deepest;
  }

  // A method begins with a line that ends in "{" two or four steps in, and ends with "}" as far in.
  private static void methodLengths(String bare) {
    String[] lines = bare.split("\n");
    for (int i = 0; i < lines.length; i++) {
      if (!lines[i].matches(" {2}( {2})?[a-zA-Z].*\\) \\{")) continue;
      String end = lines[i].replaceAll("[^ ].*", "") + "}";
      int length = 1;
      while (i + length < lines.length && !lines[i + length].equals(end)) length++;
      Check.isTrue("short: " + lines[i], length <= 60);
    }
  }
}
