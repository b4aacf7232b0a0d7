import java.lang.reflect.Method;
import java.nio.charset.StandardCharsets;
import java.nio.file.Files;
import java.nio.file.Path;
import java.util.List;
import java.util.Map;

/**
 * Each boundary sentence's test fails if the sentence is broken: Model is compiled under the name
 * UpWhenDies with the words of a breach in it, and the sentence's test is asked of it.
 */
public final class BreachesTest {
  private static final String NAME = "UpWhenDies";
  private static final String HEAD = "final class Model {";
  private static final String HEAD_AS_CLASS = "public final class UpWhenDies {";

  public static void main(String[] args) throws Exception {
    Path place = Path.of(System.getProperty("project.root", "."), "src/test/java/Model.java");
    String model = Files.readString(place, StandardCharsets.UTF_8);
    List<Boundaries.Sentence> all = Boundaries.all();
    Map<String, byte[]> whole = Compiled.classes(NAME, replaced(model, HEAD, HEAD_AS_CLASS));
    int breaches = 0;
    for (Boundaries.Sentence sentence : all) {
      Check.due("wrong in the whole Model, " + sentence.name(), wrongIn(whole, sentence), 0);
      Check.isTrue("has a breach: " + sentence.name(), !sentence.breaches.isEmpty());
      for (String[] breach : sentence.breaches) {
        breaches++;
        breaks(model, sentence, breach);
      }
    }
    System.out.println(breaches + " breaches");
    Check.end();
  }

  private static void breaks(String model, Boundaries.Sentence sentence, String[] breach) throws Exception {
    String name = sentence.name() + " broken by " + breach[1];
    int first = model.indexOf(breach[0]);
    boolean once = first >= 0 && model.indexOf(breach[0], first + 1) < 0;
    Check.isTrue("stands once in Model: " + breach[0], once);
    if (!once) return;
    String source = replaced(replaced(model, breach[0], breach[1]), HEAD, HEAD_AS_CLASS);
    Map<String, byte[]> broken = Compiled.classes(NAME, source);
    Check.isTrue("compiles: " + name, !broken.isEmpty());
    if (!broken.isEmpty()) Check.isTrue("is seen: " + name, wrongIn(broken, sentence) > 0);
  }

  private static String replaced(String text, String words, String others) {
    int at = text.indexOf(words);
    return text.substring(0, at) + others + text.substring(at + words.length());
  }

  private static int wrongIn(Map<String, byte[]> classes, Boundaries.Sentence sentence) throws Exception {
    Method asked = new Compiled.Room(classes).loadClass("BoundariesTest").getMethod("wrongIn", String.class);
    return (Integer) asked.invoke(null, sentence.name());
  }
}
