import java.io.ByteArrayOutputStream;
import java.io.IOException;
import java.io.InputStream;
import java.io.OutputStream;
import java.lang.reflect.Method;
import java.net.URI;
import java.nio.charset.StandardCharsets;
import java.nio.file.Files;
import java.nio.file.Path;
import java.util.HashMap;
import java.util.List;
import java.util.Map;
import javax.tools.FileObject;
import javax.tools.ForwardingJavaFileManager;
import javax.tools.JavaCompiler;
import javax.tools.JavaFileManager;
import javax.tools.JavaFileObject;
import javax.tools.SimpleJavaFileObject;
import javax.tools.ToolProvider;

/**
 * Each boundary sentence's test fails if the sentence is broken: Model is compiled under the name
 * UpWhenDies with the words of a breach in it, and the sentence's test is asked of it.
 */
public final class BreachesTest {
  private static final String HEAD = "final class Model {";
  private static final String HEAD_AS_CLASS = "public final class UpWhenDies {";

  public static void main(String[] args) throws Exception {
    Path place = Path.of(System.getProperty("project.root", "."), "src/test/java/Model.java");
    String model = Files.readString(place, StandardCharsets.UTF_8);
    List<Boundaries.Sentence> all = Boundaries.all();
    Map<String, byte[]> whole = compiled(replaced(model, HEAD, HEAD_AS_CLASS));
    int breaches = 0;
    for (Boundaries.Sentence sentence : all) {
      Check.due("wrong in the whole Model, " + sentence.name(), wrongIn(whole, sentence), 0);
      Check.isTrue("has a breach: " + sentence.name(), !sentence.breaches.isEmpty());
      for (String[] breach : sentence.breaches) {
        breaches++;
        breaks(model, sentence, breach);
      }
    }
    System.out.println(breaches + " breaches");
    Check.end();
  }

  private static void breaks(String model, Boundaries.Sentence sentence, String[] breach) throws Exception {
    String name = sentence.name() + " broken by " + breach[1];
    int first = model.indexOf(breach[0]);
    boolean once = first >= 0 && model.indexOf(breach[0], first + 1) < 0;
    Check.isTrue("stands once in Model: " + breach[0], once);
    if (!once) return;
    Map<String, byte[]> broken = compiled(replaced(replaced(model, breach[0], breach[1]), HEAD, HEAD_AS_CLASS));
    Check.isTrue("compiles: " + name, !broken.isEmpty());
    if (!broken.isEmpty()) Check.isTrue("is seen: " + name, wrongIn(broken, sentence) > 0);
  }

  private static String replaced(String text, String words, String others) {
    int at = text.indexOf(words);
    return text.substring(0, at) + others + text.substring(at + words.length());
  }

  private static int wrongIn(Map<String, byte[]> classes, Boundaries.Sentence sentence) throws Exception {
    Method asked = new Room(classes).loadClass("BoundariesTest").getMethod("wrongIn", String.class);
    return (Integer) asked.invoke(null, sentence.name());
  }

  /** The classes of this source by their names; none if it does not compile. */
  private static Map<String, byte[]> compiled(String source) throws IOException {
    JavaCompiler compiler = ToolProvider.getSystemJavaCompiler();
    try (Kept kept = new Kept(compiler.getStandardFileManager(null, null, null))) {
      boolean fine = compiler.getTask(null, kept, null, List.of("-proc:none"), null, List.of(new Told(source))).call();
      return fine ? kept.classes() : Map.of();
    }
  }

  /** A source that stands in no file. */
  private static final class Told extends SimpleJavaFileObject {
    private final String source;

    Told(String source) {
      super(URI.create("string:///UpWhenDies.java"), Kind.SOURCE);
      this.source = source;
    }

    @Override
    public CharSequence getCharContent(boolean ignoreEncodingErrors) {
      return source;
    }
  }

  /** Keeps what is compiled in mind, not in files. */
  private static final class Kept extends ForwardingJavaFileManager<JavaFileManager> {
    private final Map<String, ByteArrayOutputStream> written = new HashMap<>();

    Kept(JavaFileManager under) {
      super(under);
    }

    @Override
    public JavaFileObject getJavaFileForOutput(Location place, String name, JavaFileObject.Kind kind, FileObject near) {
      return new SimpleJavaFileObject(URI.create("string:///" + name + ".class"), kind) {
        @Override
        public OutputStream openOutputStream() {
          ByteArrayOutputStream out = new ByteArrayOutputStream();
          written.put(name, out);
          return out;
        }
      };
    }

    Map<String, byte[]> classes() {
      Map<String, byte[]> classes = new HashMap<>();
      for (Map.Entry<String, ByteArrayOutputStream> one : written.entrySet()) {
        classes.put(one.getKey(), one.getValue().toByteArray());
      }
      return classes;
    }
  }

  /** All classes of the tests anew, with these instead of the project's. */
  private static final class Room extends ClassLoader {
    private final Map<String, byte[]> classes;

    Room(Map<String, byte[]> classes) {
      super(ClassLoader.getPlatformClassLoader());
      this.classes = classes;
    }

    @Override
    protected Class<?> findClass(String name) throws ClassNotFoundException {
      byte[] code = classes.containsKey(name) ? classes.get(name) : codeOf(name);
      return defineClass(name, code, 0, code.length);
    }

    private static byte[] codeOf(String name) throws ClassNotFoundException {
      try (InputStream in = BreachesTest.class.getResourceAsStream("/" + name.replace('.', '/') + ".class")) {
        if (in == null) throw new ClassNotFoundException(name);
        return in.readAllBytes();
      } catch (IOException e) {
        throw new ClassNotFoundException(name, e);
      }
    }
  }
}
