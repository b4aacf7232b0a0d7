import java.math.BigInteger;
import java.util.ArrayList;
import java.util.List;
import java.util.regex.Matcher;
import java.util.regex.Pattern;

/**
 * The document once more, written in other ways than the class: by trying all deaths where the class
 * reckons, by a pattern where it goes letter by letter.
 */
final class Model {
  private static final Pattern HOUSE =
      Pattern.compile("(l[lsicdy][0-9]{1,2},[0-9];|w[0-9][0-9];|y[0-9]{0,8};)+");
  private static final String KINDS = "lsicdy";

  /** One LODGER; a dead one's floor is -1. */
  static final class Person {
    int kind;
    int age;
    int floor;
    int load;
    int wish = -9;

    Person copy() {
      Person p = new Person();
      p.kind = kind;
      p.age = age;
      p.floor = floor;
      p.load = load;
      p.wish = wish;
      return p;
    }

    int chance() {
      return chance(KINDS.charAt(kind));
    }

    private int chance(char k) {
      switch (k) {
        case 's': return chance('l') / 2;
        case 'i': return Math.min(10, chance('l') + 3);
        case 'd': return Math.max(0, chance('i') - 2);
        case 'y': return age < 50 ? 0 : chance('s');
        default: return age / 10;
      }
    }

    int climbs() {
      int plain = 9;
      for (int a = 12; a <= age; a += 12) plain--;
      boolean strong = KINDS.charAt(kind) == 's' || KINDS.charAt(kind) == 'y';
      return strong ? Math.min(9, plain + 2) : plain;
    }

    boolean alive() {
      return floor >= 0;
    }

    boolean cellarBelow() {
      return KINDS.charAt(kind) == 'c' && floor == 0;
    }
  }

  List<Person> people = new ArrayList<>();
  int year;
  private List<Person> keptPeople;
  private int keptYear;
  private final List<Integer> row = new ArrayList<>();
  private String text = "";
  private final int[] refusals = new int[17];

  private int no(int number) {
    refusals[10 - number]++;
    return number;
  }

  private static List<Person> copies(List<Person> from) {
    List<Person> to = new ArrayList<>();
    for (Person p : from) to.add(p.copy());
    return to;
  }

  private static int entry(int kind, int age) {
    char k = KINDS.charAt(kind);
    if (k == 'c') return 0;
    if (k == 'y') return age < 10 ? 0 : (age - 10) / 10;
    return age / 10;
  }

  private static Person at(List<Person> all, int floor) {
    for (Person p : all) if (p.alive() && p.floor == floor) return p;
    return null;
  }

  private boolean dead(int lodger) {
    return lodger < 0 || lodger >= people.size() || !people.get(lodger).alive();
  }

  private boolean someDead(int set) {
    for (int i = 0; i < 32; i++) if ((set >>> i & 1) == 1 && dead(i)) return true;
    return false;
  }

  /** Lets a YEAR pass over these people: the floors that each moved up, -1 for the dead. */
  private static int[] pass(List<Person> all, int deaths) {
    int[] up = new int[all.size()];
    for (int i = 0; i < all.size(); i++) {
      Person p = all.get(i);
      up[i] = -1;
      if (!p.alive() || (deaths >> i & 1) == 1) continue;
      up[i] = 0;
      for (int j = 0; j < all.size(); j++) {
        boolean died = all.get(j).alive() && (deaths >> j & 1) == 1;
        if (died && all.get(j).floor > p.floor && !p.cellarBelow()) up[i]++;
      }
    }
    for (int i = 0; i < all.size(); i++) {
      Person p = all.get(i);
      if (up[i] < 0) {
        p.floor = -1;
      } else {
        p.floor += up[i];
        p.age = Math.min(99, p.age + 1);
      }
    }
    return up;
  }

  private static int living(List<Person> all) {
    int set = 0;
    for (int i = 0; i < all.size(); i++) if (all.get(i).alive()) set |= 1 << i;
    return set;
  }

  public int letter(int c) {
    if (c < 0) return no(-4);
    if (c > 255 || text.length() == 80) return no(-6);
    text += (char) c;
    return text.length();
  }

  public int house() {
    String told = text;
    text = "";
    int misfit = misfit(told);
    if (misfit >= 0) return -1000 - misfit;
    List<Person> before = copies(people);
    int yearBefore = year;
    int place = 0;
    String[] statements = told.split(";");
    for (String statement : statements) {
      if (!play(statement)) {
        people = before;
        year = yearBefore;
        return -2000 - place;
      }
      place += statement.length() + 1;
    }
    return statements.length;
  }

  private static int misfit(String told) {
    for (int i = 0; i < told.length(); i++) {
      Matcher m = HOUSE.matcher(told.substring(0, i + 1));
      if (!m.matches() && !m.hitEnd()) return i;
    }
    return HOUSE.matcher(told).matches() ? -1 : told.length();
  }

  private boolean play(String s) {
    if (s.charAt(0) == 'l') {
      int comma = s.indexOf(',');
      int age = Integer.parseInt(s.substring(2, comma));
      int kind = KINDS.indexOf(s.charAt(1));
      if (people.size() == 8 || at(people, entry(kind, age)) != null) return false;
      come(kind, age, Integer.parseInt(s.substring(comma + 1)));
      return true;
    }
    if (s.charAt(0) == 'w') {
      if (dead(s.charAt(1) - '0')) return false;
      people.get(s.charAt(1) - '0').wish = s.charAt(2) - '0';
      return true;
    }
    int deaths = 0;
    for (char c : s.substring(1).toCharArray()) {
      if (dead(c - '0') || s.indexOf(c, 1) != s.lastIndexOf(c)) return false;
      deaths += 1 << c - '0';
    }
    if (year == 99) return false;
    pass(people, deaths);
    year++;
    return true;
  }

  private int come(int kind, int age, int load) {
    Person p = new Person();
    p.kind = kind;
    p.age = age;
    p.load = load;
    p.floor = entry(kind, age);
    people.add(p);
    return people.size() - 1;
  }

  public int enter(int kind, int age, int load) {
    if (kind < 0 || kind > 5) return no(-2);
    if (age < 0 || load < 0) return no(-4);
    if (age > 99 || load > 9 || people.size() == 8) return no(-6);
    if (at(people, entry(kind, age)) != null) return no(-3);
    return come(kind, age, load);
  }

  public int lodger(int lodger, int what) {
    if (dead(lodger)) return no(-1);
    Person p = people.get(lodger);
    if (what < 0 || what > 6) return no(-2);
    return new int[] {p.kind, p.age, p.floor, p.load, p.chance(), p.climbs(), p.wish}[what];
  }

  public int wish(int lodger, int floor) {
    if (dead(lodger) || floor < -1 || floor > 9) return no(-1);
    int was = people.get(lodger).wish;
    people.get(lodger).wish = floor == -1 ? -9 : floor;
    return was;
  }

  public int year(int deaths) {
    if (someDead(deaths)) return no(-1);
    if (year == 99) return no(-6);
    year++;
    int moved = 0;
    for (int up : pass(people, deaths)) if (up > 0) moved++;
    return moved;
  }

  public int on(int floor) {
    if (floor < 0 || floor > 9) return no(-1);
    Person p = at(people, floor);
    return p == null ? -9 : people.indexOf(p);
  }

  public long likely(int lodger, int floor, int n, int part) {
    int refusal = 0;
    if (dead(lodger) || floor < 0 || floor > 9) refusal = -1;
    else if (n < 1) refusal = -4;
    else if (n > 2) refusal = -6;
    else if (part < 0 || part > 1) refusal = -2;
    if (refusal != 0) return 4000000000000000000L - no(refusal);
    BigInteger above = weight(people, lodger, floor, n);
    BigInteger below = BigInteger.TEN.pow(8 * n);
    BigInteger common = above.gcd(below);
    return (part == 0 ? above : below).divide(common).longValueExact();
  }

  // Every set of deaths of every YEAR is tried; the whole is ten to the 8th each YEAR, as if the dead
  // (and those who never came) still drew.
  private static BigInteger weight(List<Person> all, int lodger, int floor, int n) {
    if (n == 0) return all.get(lodger).floor >= floor ? BigInteger.ONE : BigInteger.ZERO;
    BigInteger sum = BigInteger.ZERO;
    int living = living(all);
    for (int deaths = living;; deaths = deaths - 1 & living) {
      if ((deaths >> lodger & 1) == 0) {
        long one = 1;
        for (int i = 0; i < 8; i++) {
          if ((living >> i & 1) == 0) one *= 10;
          else one *= (deaths >> i & 1) == 1 ? all.get(i).chance() : 10 - all.get(i).chance();
        }
        if (one != 0) {
          List<Person> then = copies(all);
          pass(then, deaths);
          sum = sum.add(weight(then, lodger, floor, n - 1).multiply(BigInteger.valueOf(one)));
        }
      }
      if (deaths == 0) break;
    }
    return sum;
  }

  public int mean() {
    return people.stream().filter(Person::alive).mapToInt(Person::chance).sum();
  }

  public int deaths(int lodger, int floor, int what) {
    if (dead(lodger) || floor < 0 || floor > 9) return no(-1);
    if (what < 0 || what > 1) return no(-2);
    Person p = people.get(lodger);
    List<Person> above = new ArrayList<>();
    for (Person q : people) if (q.alive() && q.floor > p.floor) above.add(q);
    int needed = floor - p.floor;
    if (needed < 1 || needed > above.size() || p.cellarBelow()) return -9;
    if (what == 0) return needed;
    above.sort((a, b) -> b.chance() - a.chance());
    int set = 0;
    for (Person q : above.subList(0, needed)) set |= 1 << people.indexOf(q);
    return set;
  }

  public int stuck() {
    int set = 0;
    for (Person p : people) if (p.alive() && p.floor > p.climbs()) set |= 1 << people.indexOf(p);
    return set;
  }

  public int safe(int lodger) {
    if (dead(lodger)) return no(-1);
    Person p = people.get(lodger).copy();
    for (int years = 0; years < 100; years++) {
      if (p.floor > p.climbs()) return years == 0 ? -9 : years - 1;
      p.age = Math.min(99, p.age + 1);
    }
    return 99;
  }

  public int carried(int deaths) {
    if (someDead(deaths)) return no(-1);
    int[] up = pass(copies(people), deaths);
    int sum = 0;
    for (int i = 0; i < up.length; i++) sum += Math.max(0, up[i]) * people.get(i).load;
    return sum;
  }

  public int leastCarried() {
    int best = -9;
    for (int i = people.size() - 1; i >= 0; i--) {
      if (dead(i)) continue;
      if (best == -9 || carried(1 << i) <= carried(1 << best)) best = i;
    }
    return best;
  }

  public int rings() {
    int set = 0;
    for (Person p : people) {
      if (!p.alive()) continue;
      int ring = 0;
      Person q = p;
      for (int i = 0; q != null && i < 9; i++) {
        ring |= 1 << people.indexOf(q);
        q = q.wish == -9 ? null : at(people, q.wish);
        if (q == p) set |= ring;
      }
    }
    return set;
  }

  public int changing() {
    int set = rings();
    int moved = 0;
    for (int i = 0; i < people.size(); i++) {
      if ((set >> i & 1) == 0) continue;
      Person p = people.get(i);
      if (p.wish != p.floor) moved++;
      p.floor = p.wish;
      p.wish = -9;
    }
    return moved;
  }

  public int free() {
    int set = 0;
    for (int f = 0; f < 10; f++) if (at(people, f) == null) set += 1 << f;
    return set;
  }

  public int ages(int kind, int what) {
    if (kind < 0 || kind > 5 || what < 0 || what > 1) return no(-2);
    int many = 0;
    int least = -9;
    for (int age = 99; age >= 0; age--) {
      if (people.size() < 8 && at(people, entry(kind, age)) == null) {
        many++;
        least = age;
      }
    }
    return what == 0 ? many : least;
  }

  public int row(int v) {
    if (v < 0) return no(-4);
    if (v > 10 || row.size() == 8) return no(-6);
    row.add(v);
    return row.size();
  }

  public int fitting(int what) {
    if (what < 0 || what > 1) return no(-2);
    if (row.size() != count(0)) return no(-3);
    int living = living(people);
    int many = 0;
    int least = -9;
    for (int deaths = 255; deaths >= 0; deaths--) {
      if ((deaths | living) != living) continue;
      List<Person> then = copies(people);
      pass(then, deaths);
      int at = 0;
      boolean fits = true;
      for (int i = 0; i < people.size(); i++) {
        if (dead(i)) continue;
        int told = row.get(at++);
        if (told != 10 && then.get(i).floor != told) fits = false;
      }
      if (fits) {
        many++;
        least = deaths;
      }
    }
    return what == 0 ? many : least;
  }

  public int judge() {
    List<Integer> so = new ArrayList<>();
    for (Person p : people) if (p.alive()) so.add(p.floor);
    List<Integer> told = new ArrayList<>(row);
    row.clear();
    for (int i = 0; i < told.size() && i < so.size(); i++) {
      if (!told.get(i).equals(so.get(i))) return i;
    }
    return told.size() == so.size() ? -9 : Math.min(told.size(), so.size());
  }

  public int lots(int n, int z) {
    if (n < 1) return no(-4);
    if (n > 40) return no(-6);
    List<Person> then = copies(people);
    for (int i = 0; i < n; i++) {
      int deaths = 0;
      for (int j = 0; j < then.size(); j++) {
        if (!then.get(j).alive()) continue;
        z = (int) (z * 1664525L + 1013904223L);
        long signless = Integer.toUnsignedLong(z) % (1L << 31);
        if (signless / 256 % 10 < then.get(j).chance()) deaths |= 1 << j;
      }
      pass(then, deaths);
    }
    return living(then);
  }

  public int image() {
    keptPeople = copies(people);
    keptYear = year;
    return year;
  }

  public int back() {
    if (keptPeople == null) return no(-3);
    people = copies(keptPeople);
    year = keptYear;
    return year;
  }

  public int count(int what) {
    if (what >= 11 && what <= 16) return refusals[what];
    if (what == 0) return Integer.bitCount(living(people));
    if (what == 1) return people.size();
    if (what == 2) return year;
    if (what == 3) return people.stream().filter(Person::alive).mapToInt(p -> p.load).sum();
    if (what == 4) return people.stream().filter(Person::alive).mapToInt(p -> p.age).sum();
    if (what == 5) return row.size();
    if (what == 6) return text.length();
    return -9;
  }
}
