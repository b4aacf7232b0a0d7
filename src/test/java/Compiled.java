import java.io.ByteArrayOutputStream;
import java.io.IOException;
import java.io.InputStream;
import java.io.OutputStream;
import java.net.URI;
import java.util.HashMap;
import java.util.List;
import java.util.Map;
import javax.tools.FileObject;
import javax.tools.ForwardingJavaFileManager;
import javax.tools.JavaCompiler;
import javax.tools.JavaFileManager;
import javax.tools.JavaFileObject;
import javax.tools.SimpleJavaFileObject;
import javax.tools.ToolProvider;

/** Compiles a source in mind, without files, and loads it. */
final class Compiled {
  private Compiled() {
  }

  /** The classes of this source by their names; none if it does not compile. */
  static Map<String, byte[]> classes(String name, String source) throws IOException {
    JavaCompiler compiler = ToolProvider.getSystemJavaCompiler();
    List<String> options = List.of("-proc:none", "-classpath", System.getProperty("java.class.path"));
    try (Kept kept = new Kept(compiler.getStandardFileManager(null, null, null))) {
      boolean fine = compiler.getTask(null, kept, null, options, null, List.of(new Told(name, source))).call();
      return fine ? kept.classes() : Map.of();
    }
  }

  /** A source that stands in no file. */
  private static final class Told extends SimpleJavaFileObject {
    private final String source;

    Told(String name, String source) {
      super(URI.create("string:///" + name + ".java"), Kind.SOURCE);
      this.source = source;
    }

    @Override
    public CharSequence getCharContent(boolean ignoreEncodingErrors) {
      return source;
    }
  }

  /** Keeps what is compiled in mind, not in files. */
  private static final class Kept extends ForwardingJavaFileManager<JavaFileManager> {
    private final Map<String, ByteArrayOutputStream> written = new HashMap<>();

    Kept(JavaFileManager under) {
      super(under);
    }

    @Override
    public JavaFileObject getJavaFileForOutput(Location place, String name, JavaFileObject.Kind kind, FileObject near) {
      return new SimpleJavaFileObject(URI.create("string:///" + name + ".class"), kind) {
        @Override
        public OutputStream openOutputStream() {
          ByteArrayOutputStream out = new ByteArrayOutputStream();
          written.put(name, out);
          return out;
        }
      };
    }

    Map<String, byte[]> classes() {
      Map<String, byte[]> classes = new HashMap<>();
      for (Map.Entry<String, ByteArrayOutputStream> one : written.entrySet()) {
        classes.put(one.getKey(), one.getValue().toByteArray());
      }
      return classes;
    }
  }

  /** All classes of the tests anew, with these added, or instead of those of the same name. */
  static final class Room extends ClassLoader {
    private final Map<String, byte[]> classes;

    Room(Map<String, byte[]> classes) {
      super(ClassLoader.getPlatformClassLoader());
      this.classes = classes;
    }

    @Override
    protected Class<?> findClass(String name) throws ClassNotFoundException {
      byte[] code = classes.containsKey(name) ? classes.get(name) : codeOf(name);
      return defineClass(name, code, 0, code.length);
    }

    private static byte[] codeOf(String name) throws ClassNotFoundException {
      try (InputStream in = Compiled.class.getResourceAsStream("/" + name.replace('.', '/') + ".class")) {
        if (in == null) throw new ClassNotFoundException(name);
        return in.readAllBytes();
      } catch (IOException e) {
        throw new ClassNotFoundException(name, e);
      }
    }
  }
}
