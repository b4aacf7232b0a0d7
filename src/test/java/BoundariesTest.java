import java.io.IOException;
import java.nio.charset.StandardCharsets;
import java.nio.file.Files;
import java.nio.file.Path;
import java.util.HashSet;
import java.util.List;
import java.util.Set;

/** Runs the test of each sentence that names a boundary case; its words must stand in the document. */
public final class BoundariesTest {
  private static final int PROMISES = 26;

  public static void main(String[] args) throws IOException {
    List<Boundaries.Sentence> all = Boundaries.all();
    for (Boundaries.Sentence sentence : all) {
      Check.under(sentence.name() + ": ");
      sentence.test.run();
    }
    Check.under("");
    eachHasItsOwnName(all);
    eachStandsInTheDocument(all);
    eachPromiseHasSome(all);
    System.out.println(all.size() + " sentences with a boundary case");
    Check.end();
  }

  /** Asked by BreachesTest in a room of its own, where another class bears the name UpWhenDies. */
  public static int wrongIn(String name) {
    for (Boundaries.Sentence sentence : Boundaries.all()) {
      if (sentence.name().equals(name)) return Check.wrongIn(sentence.test);
    }
    return 0;
  }

  private static void eachHasItsOwnName(List<Boundaries.Sentence> all) {
    Set<String> names = new HashSet<>();
    for (Boundaries.Sentence sentence : all) {
      Check.isTrue("told once: " + sentence.name(), names.add(sentence.name()));
    }
  }

  private static void eachStandsInTheDocument(List<Boundaries.Sentence> all) throws IOException {
    Path place = Path.of(System.getProperty("project.root", "."), "../shared/DOC.md");
    String document = Files.readString(place, StandardCharsets.UTF_8);
    for (Boundaries.Sentence sentence : all) {
      String section = sectionOf(document, sentence.section).replaceAll("\\s+", " ");
      Check.isTrue("in the document: " + sentence.name(), section.contains(sentence.words));
    }
  }

  private static String sectionOf(String document, String heading) {
    int start = document.indexOf("\n## " + heading);
    if (start < 0) return "";
    int end = document.indexOf("\n## ", start + 1);
    return end < 0 ? document.substring(start) : document.substring(start, end);
  }

  private static void eachPromiseHasSome(List<Boundaries.Sentence> all) {
    for (int promise = 1; promise <= PROMISES; promise++) {
      int many = 0;
      for (Boundaries.Sentence sentence : all) if (sentence.section.startsWith("Promise " + promise + ": ")) many++;
      Check.isTrue("promise " + promise + " has a sentence", many > 0);
    }
  }
}
