import java.util.ArrayList;
import java.util.List;

/** Sentences of the document that name a boundary case, each with a test of its own. */
abstract class Boundaries extends Asking {

  /** Words of the document, and the test that fails if they are broken. */
  static final class Sentence {
    final String section;
    final String words;
    final String which;
    final Runnable test;
    // Pairs: words of Model, and others in their place with which Model breaks the sentence (see BreachesTest).
    final List<String[]> breaches = new ArrayList<>();

    private Sentence(String section, String words, String which, Runnable test) {
      this.section = section;
      this.words = words;
      this.which = which;
      this.test = test;
    }

    Sentence brokenBy(String wordsOfModel, String others) {
      breaches.add(new String[] {wordsOfModel, others});
      return this;
    }

    /** The sentence's own name: no two have the same. */
    String name() {
      return section + ": \"" + words + "\" (" + which + ")";
    }
  }

  private final List<Sentence> sentences = new ArrayList<>();
  private String section = "";

  /** The heading of the document under which the sentences stand that are told from now on. */
  void under(String heading) {
    section = heading;
  }

  Sentence bound(String words, String which, Runnable test) {
    Sentence sentence = new Sentence(section, words, which, test);
    sentences.add(sentence);
    return sentence;
  }

  List<Sentence> sentences() {
    return sentences;
  }

  static List<Sentence> all() {
    List<Sentence> all = new ArrayList<>();
    all.addAll(new HouseBoundaries().sentences());
    all.addAll(new TermsBoundaries().sentences());
    all.addAll(new ReckoningBoundaries().sentences());
    all.addAll(new PromiseBoundaries().sentences());
    return all;
  }
}
