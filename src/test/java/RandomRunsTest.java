import java.util.Random;

/** Runs of 512 calls each, drawn with fixed seeds: the class answers as the model does. */
public final class RandomRunsTest {
  private static final int[] WILD = {Integer.MIN_VALUE, -100, -10, -2, -1, 2, 3, 6, 7, 8, 10, 11, 31, 32, 33, 40, 41,
    80, 99, 100, 255, 256, 1000, Integer.MAX_VALUE};

  private final Random random;
  private final UpWhenDies x = new UpWhenDies();
  private final Model m = new Model();
  private final String run;
  private int calls = 0;

  private RandomRunsTest(int seed) {
    // Seeds that lie side by side draw alike at first, so they are spread.
    random = new Random(seed * 0x9E3779B97F4A7C15L);
    run = "run " + seed + ": ";
  }

  public static void main(String[] args) {
    for (int seed = 0; seed < 1500; seed++) new RandomRunsTest(seed).play(seed % 5 == 0 ? 12 : 3);
    Check.end();
  }

  private void play(int wildness) {
    // Some runs begin late, so that the last YEAR is come to.
    int idle = random.nextInt(4) == 0 ? 90 + random.nextInt(10) : 0;
    for (int i = 0; i < idle; i++) due("year(0)", x.year(0), m.year(0));
    while (calls < 512) step(wildness);
  }

  private void due(String call, long got, long want) {
    calls++;
    Check.due(run + "call " + calls + ": " + call, got, want);
  }

  private int number(int below, int wildness) {
    return random.nextInt(100) < wildness ? WILD[random.nextInt(WILD.length)] : random.nextInt(below);
  }

  private int lodger(int wildness) {
    return number(Math.max(1, m.people.size()), wildness);
  }

  private int deaths(int wildness) {
    if (random.nextInt(100) < wildness) return random.nextInt() >> random.nextInt(32);
    int set = 0;
    for (int i = 0; i < m.people.size(); i++) {
      if (m.people.get(i).alive() && random.nextInt(5) == 0) set |= 1 << i;
    }
    return set;
  }

  private void step(int w) {
    switch (random.nextInt(24)) {
      case 0: tellHouse(w); break;
      case 1: enterOne(w); break;
      case 2: case 3: lookAtOne(w); break;
      case 4: wishOne(w); break;
      case 5: passYear(w); break;
      case 6: { int f = number(10, w); due("on(" + f + ")", x.on(f), m.on(f)); break; }
      case 7: reckon(w); break;
      case 8: due("mean()", x.mean(), m.mean()); break;
      case 9: case 10: needDeaths(w); break;
      case 11: due("stuck()", x.stuck(), m.stuck()); break;
      case 12: { int l = lodger(w); due("safe(" + l + ")", x.safe(l), m.safe(l)); break; }
      case 13: { int d = deaths(w); due("carried(" + d + ")", x.carried(d), m.carried(d)); break; }
      case 14: due("leastCarried()", x.leastCarried(), m.leastCarried()); break;
      case 15: changeRings(); break;
      case 16: due("free()", x.free(), m.free()); break;
      case 17: lookAtAges(w); break;
      case 18: case 19: tellRow(w); break;
      case 20: drawLots(w); break;
      case 21: keepOrGoBack(); break;
      default: { int c = number(17, w); due("count(" + c + ")", x.count(c), m.count(c)); break; }
    }
  }

  private void tellHouse(int w) {
    StringBuilder text = new StringBuilder();
    int statements = random.nextInt(20) == 0 ? 25 : 1 + random.nextInt(4);
    for (int i = 0; i < statements; i++) text.append(statement());
    if (random.nextInt(4) == 0) spoil(text);
    if (random.nextInt(100) < w) {
      int c = number(256, 50);
      due("letter(" + c + ")", x.letter(c), m.letter(c));
    }
    for (int i = 0; i < text.length(); i++) {
      int c = text.charAt(i);
      due("letter(" + c + ")", x.letter(c), m.letter(c));
    }
    due("house() " + text, x.house(), m.house());
  }

  private String statement() {
    switch (random.nextInt(5)) {
      case 0: return "w" + random.nextInt(10) % 9 + random.nextInt(10) + ";";
      case 1: {
        StringBuilder years = new StringBuilder("y");
        int set = deaths(0) & (random.nextInt(2) == 0 ? 255 : 0);
        for (int i = 0; i < 10; i++) {
          if ((set >> i & 1) == 1 || random.nextInt(60) == 0) years.append(i);
        }
        return years.append(";").toString();
      }
      default:
        return "l" + "lsicdy".charAt(random.nextInt(6)) + random.nextInt(100) + "," + random.nextInt(10) + ";";
    }
  }

  private void spoil(StringBuilder text) {
    int at = random.nextInt(text.length());
    switch (random.nextInt(5)) {
      case 0: text.deleteCharAt(at); break;
      case 1: text.setCharAt(at, "lsicdyw0123456789,; ".charAt(random.nextInt(20))); break;
      case 2: text.insert(at, "lsicdyw0123456789,; ".charAt(random.nextInt(20))); break;
      case 3: text.setLength(at); break;
      default: text.append("ylw0x;".charAt(random.nextInt(6))); break;
    }
  }

  private void enterOne(int w) {
    int kind = number(6, w);
    int age = number(100, w);
    int load = number(10, w);
    due("enter(" + kind + ", " + age + ", " + load + ")", x.enter(kind, age, load), m.enter(kind, age, load));
  }

  private void lookAtOne(int w) {
    int l = lodger(w);
    int what = number(7, w);
    due("lodger(" + l + ", " + what + ")", x.lodger(l, what), m.lodger(l, what));
  }

  private void wishOne(int w) {
    int l = lodger(w);
    // Mostly a FLOOR on which somebody lives, or there would be few rings.
    int f = number(11, w) - 1;
    if (random.nextInt(3) > 0 && !m.people.isEmpty()) {
      f = m.people.get(random.nextInt(m.people.size())).floor;
    }
    due("wish(" + l + ", " + f + ")", x.wish(l, f), m.wish(l, f));
  }

  private void passYear(int w) {
    int d = random.nextInt(3) == 0 ? deaths(w) : 0;
    due("year(" + d + ")", x.year(d), m.year(d));
  }

  private void reckon(int w) {
    int l = lodger(w);
    int f = number(10, w);
    int n = 1 + number(2, w);
    int part = number(2, w);
    String call = "likely(" + l + ", " + f + ", " + n + ", " + part + ")";
    due(call, x.likely(l, f, n, part), m.likely(l, f, n, part));
  }

  private void needDeaths(int w) {
    int l = lodger(w);
    int f = number(10, w);
    int what = number(2, w);
    due("deaths(" + l + ", " + f + ", " + what + ")", x.deaths(l, f, what), m.deaths(l, f, what));
  }

  private void changeRings() {
    due("rings()", x.rings(), m.rings());
    if (random.nextInt(3) == 0) due("changing()", x.changing(), m.changing());
  }

  private void lookAtAges(int w) {
    int kind = number(6, w);
    int what = number(2, w);
    due("ages(" + kind + ", " + what + ")", x.ages(kind, what), m.ages(kind, what));
  }

  private void tellRow(int w) {
    int deaths = deaths(0);
    boolean now = random.nextInt(2) == 0;
    for (int i = 0; i < m.people.size(); i++) {
      Model.Person p = m.people.get(i);
      if (!p.alive()) continue;
      int v = now || p.cellarBelow() ? p.floor : p.floor + diedAbove(p, deaths);
      if (!now && ((deaths >> i & 1) == 1 || random.nextInt(3) == 0)) v = 10;
      if (random.nextInt(100) < w) v = number(11, w);
      due("row(" + v + ")", x.row(v), m.row(v));
    }
    if (random.nextInt(10) == 0) due("row(3)", x.row(3), m.row(3));
    int what = number(2, w);
    due("fitting(" + what + ")", x.fitting(what), m.fitting(what));
    due("judge()", x.judge(), m.judge());
  }

  private int diedAbove(Model.Person p, int deaths) {
    int died = 0;
    for (int i = 0; i < m.people.size(); i++) {
      if ((deaths >> i & 1) == 1 && m.people.get(i).floor > p.floor) died++;
    }
    return died;
  }

  private void drawLots(int w) {
    int n = 1 + number(random.nextInt(2) == 0 ? 3 : 40, w);
    int z = random.nextInt();
    due("lots(" + n + ", " + z + ")", x.lots(n, z), m.lots(n, z));
  }

  private void keepOrGoBack() {
    if (random.nextInt(2) == 0) due("image()", x.image(), m.image());
    else due("back()", x.back(), m.back());
  }
}
