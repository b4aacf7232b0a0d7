/** A tall house whose lodgers move up whenever anybody above them dies. */
public final class UpWhenDies {
  private static final int MOST_LODGERS = 8;
  private static final int MOST_LETTERS = 80;
  private static final int GREATEST_LETTER = 255;
  private static final int TOP_FLOOR = 9;
  private static final int ALL_FLOORS = 1023;
  private static final int KINDS = 6;
  private static final int OLDEST = 99;
  private static final int HEAVIEST = 9;
  private static final int LAST_YEAR = 99;
  private static final int MOST_LOTS = 40;
  private static final int NOT_KNOWN = 10;

  private static final int NONE = -9;
  private static final int NOBODY = -1;
  private static final int OTHER = -2;
  private static final int STATE = -3;
  private static final int BELOW = -4;
  private static final int ROOM = -6;
  private static final int REFUSALS = 6;
  private static final long LONG_REFUSAL = 4000000000000000000L;

  private final Tower now;
  // A HOUSE is played on the trial first, so that one with a FAULT leaves nothing behind.
  private final Tower trial;
  private final Tower kept;
  private boolean hasImage;
  private final Telling telling;
  private final Odds odds;
  private final int[] told;
  private int toldSize;
  private final int[] refused;

  public UpWhenDies() {
    now = new Tower();
    trial = new Tower();
    kept = new Tower();
    telling = new Telling();
    odds = new Odds();
    told = new int[MOST_LODGERS];
    refused = new int[REFUSALS + 1];
  }

  public int letter(int c) {
    if (c < 0) return refuse(BELOW);
    if (c > GREATEST_LETTER || telling.isFull()) return refuse(ROOM);
    return telling.add(c);
  }

  public int house() {
    int answer = takeHouse();
    telling.forget();
    return answer;
  }

  public int enter(int kind, int age, int load) {
    if (!isKind(kind)) return refuse(OTHER);
    if (age < 0 || load < 0) return refuse(BELOW);
    if (age > OLDEST || load > HEAVIEST || now.isFull()) return refuse(ROOM);
    if (!now.couldComeIn(kind, age)) return refuse(STATE);
    return now.admit(kind, age, load);
  }

  public int lodger(int lodger, int what) {
    if (!now.isAlive(lodger)) return refuse(NOBODY);
    switch (what) {
      case 0: return now.kind[lodger];
      case 1: return now.age[lodger];
      case 2: return now.floor[lodger];
      case 3: return now.load[lodger];
      case 4: return now.chanceAfter(lodger, 0);
      case 5: return now.climbAfter(lodger, 0);
      case 6: return now.wishTold(lodger);
      default: return refuse(OTHER);
    }
  }

  public int wish(int lodger, int floor) {
    if (!now.isAlive(lodger)) return refuse(NOBODY);
    if (floor != Tower.NO_FLOOR && !isFloor(floor)) return refuse(NOBODY);
    int before = now.wishTold(lodger);
    now.wished[lodger] = floor;
    return before;
  }

  public int year(int deaths) {
    if (!now.areAlive(deaths)) return refuse(NOBODY);
    if (now.yearNow >= LAST_YEAR) return refuse(ROOM);
    return now.passYear(deaths);
  }

  public int on(int floor) {
    if (!isFloor(floor)) return refuse(NOBODY);
    int lodger = now.whoLivesOn(floor);
    return lodger < 0 ? NONE : lodger;
  }

  public long likely(int lodger, int floor, int n, int part) {
    if (!now.isAlive(lodger) || !isFloor(floor)) return refuseLong(NOBODY);
    if (n < 1) return refuseLong(BELOW);
    if (n > 2) return refuseLong(ROOM);
    if (part != 0 && part != 1) return refuseLong(OTHER);
    odds.reckon(now, lodger, floor, n);
    return part == 0 ? odds.above : odds.below;
  }

  public int mean() {
    int tenths = 0;
    for (int i = 0; i < MOST_LODGERS; i++) {
      if (now.isAlive(i)) tenths += now.chanceAfter(i, 0);
    }
    return tenths;
  }

  public int deaths(int lodger, int floor, int what) {
    if (!now.isAlive(lodger) || !isFloor(floor)) return refuse(NOBODY);
    if (what != 0 && what != 1) return refuse(OTHER);
    int needed = floor - now.floor[lodger];
    if (needed <= 0 || now.staysDown(lodger)) return NONE;
    if (needed > now.floorsUp(lodger, now.floorsOf(now.living()))) return NONE;
    return what == 0 ? needed : now.likeliestAbove(lodger, needed);
  }

  public int stuck() {
    int set = 0;
    for (int i = 0; i < MOST_LODGERS; i++) {
      if (now.isAlive(i) && now.isOutOfReach(i, 0)) set |= 1 << i;
    }
    return set;
  }

  public int safe(int lodger) {
    if (!now.isAlive(lodger)) return refuse(NOBODY);
    int most = NONE;
    for (int years = 0; years <= OLDEST; years++) {
      if (now.isOutOfReach(lodger, years)) break;
      most = years;
    }
    return most;
  }

  public int carried(int deaths) {
    if (!now.areAlive(deaths)) return refuse(NOBODY);
    return now.burden(deaths);
  }

  public int leastCarried() {
    int best = NONE;
    int least = 0;
    for (int i = 0; i < MOST_LODGERS; i++) {
      if (!now.isAlive(i)) continue;
      int burden = now.burden(1 << i);
      if (best == NONE || burden < least) {
        best = i;
        least = burden;
      }
    }
    return best;
  }

  public int rings() {
    return now.inRings();
  }

  public int changing() {
    return now.changeRings();
  }

  public int free() {
    return ALL_FLOORS & ~now.floorsOf(now.living());
  }

  public int ages(int kind, int what) {
    if (!isKind(kind) || what != 0 && what != 1) return refuse(OTHER);
    int many = 0;
    int least = NONE;
    for (int age = 0; age <= OLDEST; age++) {
      if (!now.couldComeIn(kind, age)) continue;
      if (many == 0) least = age;
      many++;
    }
    return what == 0 ? many : least;
  }

  public int row(int v) {
    if (v < 0) return refuse(BELOW);
    if (v > NOT_KNOWN || toldSize >= MOST_LODGERS) return refuse(ROOM);
    told[toldSize] = v;
    toldSize++;
    return toldSize;
  }

  public int fitting(int what) {
    if (what != 0 && what != 1) return refuse(OTHER);
    if (toldSize != Integer.bitCount(now.living())) return refuse(STATE);
    int many = 0;
    int least = NONE;
    for (int deaths = 0; deaths < 1 << MOST_LODGERS; deaths++) {
      if (!now.areAlive(deaths) || !fitsTheRow(deaths)) continue;
      if (many == 0) least = deaths;
      many++;
    }
    return what == 0 ? many : least;
  }

  public int judge() {
    int answer = firstNotSo();
    toldSize = 0;
    return answer;
  }

  public int lots(int n, int z) {
    if (n < 1) return refuse(BELOW);
    if (n > MOST_LOTS) return refuse(ROOM);
    return now.livingByLot(n, z);
  }

  public int image() {
    kept.becomeLike(now);
    hasImage = true;
    return kept.yearNow;
  }

  public int back() {
    if (!hasImage) return refuse(STATE);
    now.becomeLike(kept);
    return now.yearNow;
  }

  public int count(int what) {
    switch (what) {
      case 0: return Integer.bitCount(now.living());
      case 1: return now.came;
      case 2: return now.yearNow;
      case 3: return now.sumOfLiving(now.load);
      case 4: return now.sumOfLiving(now.age);
      case 5: return toldSize;
      case 6: return telling.size;
      default: return what > 10 && what <= 10 + REFUSALS ? refused[what - 10] : NONE;
    }
  }

  private int refuse(int number) {
    int which = -number;
    if (which >= 1 && which <= REFUSALS) refused[which]++;
    return number;
  }

  private long refuseLong(int number) {
    return LONG_REFUSAL - refuse(number);
  }

  private static boolean isFloor(int floor) {
    return floor >= 0 && floor <= TOP_FLOOR;
  }

  private static boolean isKind(int kind) {
    return kind >= 0 && kind < KINDS;
  }

  private int takeHouse() {
    int place = telling.firstMisfit();
    if (place >= 0) return -1000 - place;
    trial.becomeLike(now);
    place = telling.playOn(trial);
    if (place >= 0) return -2000 - place;
    now.becomeLike(trial);
    return telling.statements();
  }

  private boolean fitsTheRow(int deaths) {
    int diedOn = now.floorsOf(deaths);
    int at = 0;
    for (int i = 0; i < MOST_LODGERS && at < toldSize; i++) {
      if (!now.isAlive(i)) continue;
      int floor = Tower.holds(deaths, i) ? Tower.NO_FLOOR : now.floor[i] + now.floorsUp(i, diedOn);
      if (told[at] != NOT_KNOWN && told[at] != floor) return false;
      at++;
    }
    return true;
  }

  // A number that is not known (10) is no FLOOR, so it is never so.
  private int firstNotSo() {
    int at = 0;
    for (int i = 0; i < MOST_LODGERS; i++) {
      if (!now.isAlive(i)) continue;
      if (at >= toldSize || told[at] != now.floor[i]) return at;
      at++;
    }
    return at < toldSize ? at : NONE;
  }

  /** What the KINDS differ in. */
  private static final class Kinds {
    static final int STRONG = 1;
    static final int ILL = 2;
    static final int CELLAR = 3;
    static final int DOCTORED = 4;
    static final int YOUNG = 5;

    static int ofLetter(int c) {
      switch (c) {
        case 'l': return 0;
        case 's': return STRONG;
        case 'i': return ILL;
        case 'c': return CELLAR;
        case 'd': return DOCTORED;
        case 'y': return YOUNG;
        default: return -1;
      }
    }

    static int entryFloor(int kind, int age) {
      int lodgers = age / 10;
      switch (kind) {
        case CELLAR: return 0;
        case YOUNG: return Math.max(0, lodgers - 1);
        default: return lodgers;
      }
    }

    static int chance(int kind, int age) {
      int lodgers = age / 10;
      switch (kind) {
        case STRONG: return strongChance(lodgers);
        case ILL: return illChance(lodgers);
        case DOCTORED: return Math.max(0, illChance(lodgers) - 2);
        case YOUNG: return age < 50 ? 0 : strongChance(lodgers);
        default: return lodgers;
      }
    }

    static int climb(int kind, int age) {
      int lodgers = 9 - age / 12;
      return kind == STRONG || kind == YOUNG ? Math.min(TOP_FLOOR, lodgers + 2) : lodgers;
    }

    private static int strongChance(int lodgers) {
      return lodgers / 2;
    }

    private static int illChance(int lodgers) {
      return Math.min(10, lodgers + 3);
    }
  }

  /** Who lives where: all that an image keeps. */
  private static final class Tower {
    static final int NO_FLOOR = -1;

    final int[] kind = new int[MOST_LODGERS];
    final int[] age = new int[MOST_LODGERS];
    final int[] floor = new int[MOST_LODGERS];
    final int[] load = new int[MOST_LODGERS];
    final int[] wished = new int[MOST_LODGERS];
    int came;
    int yearNow;

    void becomeLike(Tower other) {
      for (int i = 0; i < MOST_LODGERS; i++) {
        kind[i] = other.kind[i];
        age[i] = other.age[i];
        floor[i] = other.floor[i];
        load[i] = other.load[i];
        wished[i] = other.wished[i];
      }
      came = other.came;
      yearNow = other.yearNow;
    }

    boolean isFull() {
      return came >= MOST_LODGERS;
    }

    boolean isAlive(int lodger) {
      return lodger >= 0 && lodger < MOST_LODGERS && lodger < came && floor[lodger] != NO_FLOOR;
    }

    boolean areAlive(int set) {
      return (set & ~living()) == 0;
    }

    int living() {
      int set = 0;
      for (int i = 0; i < MOST_LODGERS; i++) {
        if (isAlive(i)) set |= 1 << i;
      }
      return set;
    }

    int whoLivesOn(int wanted) {
      for (int i = 0; i < MOST_LODGERS; i++) {
        if (isAlive(i) && floor[i] == wanted) return i;
      }
      return -1;
    }

    int sumOfLiving(int[] numbers) {
      int sum = 0;
      for (int i = 0; i < MOST_LODGERS && i < numbers.length; i++) {
        if (isAlive(i)) sum += numbers[i];
      }
      return sum;
    }

    boolean couldComeIn(int newKind, int newAge) {
      return !isFull() && whoLivesOn(Kinds.entryFloor(newKind, newAge)) < 0;
    }

    /** The number of the one who has come; -1 there was no room. */
    int admit(int newKind, int newAge, int newLoad) {
      int number = came;
      if (number < 0 || number >= MOST_LODGERS) return -1;
      kind[number] = newKind;
      age[number] = newAge;
      floor[number] = Kinds.entryFloor(newKind, newAge);
      load[number] = newLoad;
      wished[number] = NO_FLOOR;
      came++;
      return number;
    }

    int wishTold(int lodger) {
      return wished[lodger] == NO_FLOOR ? NONE : wished[lodger];
    }

    int chanceAfter(int lodger, int years) {
      return Kinds.chance(kind[lodger], ageAfter(lodger, years));
    }

    int climbAfter(int lodger, int years) {
      return Kinds.climb(kind[lodger], ageAfter(lodger, years));
    }

    boolean isOutOfReach(int lodger, int years) {
      return floor[lodger] > climbAfter(lodger, years);
    }

    boolean staysDown(int lodger) {
      return kind[lodger] == Kinds.CELLAR && floor[lodger] == 0;
    }

    int floorsOf(int set) {
      int floors = 0;
      for (int i = 0; i < MOST_LODGERS; i++) {
        if (holds(set, i)) floors |= 1 << floor[i];
      }
      return floors;
    }

    /** By how many FLOORS one moves up who does not die himself. */
    int floorsUp(int lodger, int diedOn) {
      return staysDown(lodger) ? 0 : Integer.bitCount(diedOn >> floor[lodger] + 1);
    }

    int passYear(int deaths) {
      int diedOn = floorsOf(deaths);
      int living = living();
      int moved = 0;
      for (int i = 0; i < MOST_LODGERS; i++) {
        if (!holds(living, i)) continue;
        int up = floorsUp(i, diedOn);
        boolean dies = holds(deaths, i);
        if (!dies && up > 0) moved++;
        floor[i] = dies ? NO_FLOOR : floor[i] + up;
        age[i] = ageAfter(i, 1);
      }
      yearNow++;
      return moved;
    }

    int burden(int deaths) {
      int diedOn = floorsOf(deaths);
      int sum = 0;
      for (int i = 0; i < MOST_LODGERS; i++) {
        if (isAlive(i) && !holds(deaths, i)) sum += load[i] * floorsUp(i, diedOn);
      }
      return sum;
    }

    int likeliestAbove(int lodger, int many) {
      int chosen = 0;
      for (int n = 0; n < many && n < MOST_LODGERS; n++) {
        int best = -1;
        for (int i = 0; i < MOST_LODGERS; i++) {
          if (!isAlive(i) || holds(chosen, i) || floor[i] <= floor[lodger]) continue;
          if (best < 0 || chanceAfter(i, 0) > chanceAfter(best, 0)) best = i;
        }
        if (best >= 0) chosen |= 1 << best;
      }
      return chosen;
    }

    int inRings() {
      int set = 0;
      for (int i = 0; i < MOST_LODGERS; i++) {
        if (isAlive(i) && isInRing(i)) set |= 1 << i;
      }
      return set;
    }

    int changeRings() {
      int set = inRings();
      int moved = 0;
      for (int i = 0; i < MOST_LODGERS; i++) {
        if (!holds(set, i)) continue;
        if (floor[i] != wished[i]) moved++;
        floor[i] = wished[i];
        wished[i] = NO_FLOOR;
      }
      return moved;
    }

    int livingByLot(int years, int seed) {
      int set = living();
      int z = seed;
      for (int y = 0; y < years; y++) {
        for (int i = 0; i < MOST_LODGERS; i++) {
          if (!holds(set, i)) continue;
          z = z * 1664525 + 1013904223;
          int draw = (z & 0x7fffffff) / 256 % 10;
          if (draw < chanceAfter(i, y)) set &= ~(1 << i);
        }
      }
      return set;
    }

    private int ageAfter(int lodger, int years) {
      return Math.min(OLDEST, age[lodger] + years);
    }

    private boolean isInRing(int lodger) {
      int at = lodger;
      for (int steps = 0; steps < MOST_LODGERS; steps++) {
        at = wished[at] == NO_FLOOR ? -1 : whoLivesOn(wished[at]);
        if (at < 0) return false;
        if (at == lodger) return true;
      }
      return false;
    }

    static boolean holds(int set, int lodger) {
      return (set >> lodger & 1) != 0;
    }
  }

  /** How likely somebody comes to a FLOOR, as a fraction. */
  private static final class Odds {
    // At d stands how likely just d of those above have died, times all that can be.
    private final long[] byDeaths = new long[MOST_LODGERS + 1];
    long above;
    long below;

    void reckon(Tower tower, int lodger, int floor, int years) {
      // Nobody ever passes another one, so who is above him now is above him in the second YEAR, too.
      long each = years == 1 ? 10 : 100;
      clear();
      for (int i = 0; i < MOST_LODGERS; i++) {
        if (tower.isAlive(i) && tower.floor[i] > tower.floor[lodger]) {
          addOneAbove(survival(tower, i, years), each);
        }
      }
      int needed = Math.max(0, floor - tower.floor[lodger]);
      above = needed > 0 && tower.staysDown(lodger) ? 0 : atLeast(needed);
      above *= survival(tower, lodger, years);
      below *= each;
      shorten();
    }

    private void clear() {
      for (int d = 0; d <= MOST_LODGERS; d++) byDeaths[d] = 0;
      byDeaths[0] = 1;
      below = 1;
    }

    private static long survival(Tower tower, int lodger, int years) {
      long lives = 1;
      for (int y = 0; y < years; y++) lives *= 10 - tower.chanceAfter(lodger, y);
      return lives;
    }

    private void addOneAbove(long lives, long each) {
      for (int d = MOST_LODGERS; d > 0; d--) {
        byDeaths[d] = byDeaths[d] * lives + byDeaths[d - 1] * (each - lives);
      }
      byDeaths[0] *= lives;
      below *= each;
    }

    private long atLeast(int deaths) {
      long sum = 0;
      for (int d = deaths; d >= 0 && d <= MOST_LODGERS; d++) sum += byDeaths[d];
      return sum;
    }

    private void shorten() {
      long a = below;
      long b = above;
      // Euclid's steps on numbers up to 10 to the 16th stay far below 200.
      for (int step = 0; step < 200 && b != 0; step++) {
        long rest = a % b;
        a = b;
        b = rest;
      }
      if (a > 1) {
        above /= a;
        below /= a;
      }
    }
  }

  /** The letters of which a HOUSE is told. */
  private static final class Telling {
    // What may come next, letter by letter; behind "y" it is DEAD and how many digits there were.
    private static final int NOWHERE = -1;
    private static final int STATEMENT = 0;
    private static final int KIND = 1;
    private static final int AGE = 2;
    private static final int AGE_OR_COMMA = 3;
    private static final int COMMA = 4;
    private static final int LOAD = 5;
    private static final int WISHING = 6;
    private static final int WISHED = 7;
    private static final int END = 8;
    private static final int DEAD = 9;

    private final int[] letters = new int[MOST_LETTERS];
    int size;

    boolean isFull() {
      return size >= MOST_LETTERS;
    }

    int add(int c) {
      if (size >= 0 && size < MOST_LETTERS) {
        letters[size] = c;
        size++;
      }
      return size;
    }

    void forget() {
      size = 0;
    }

    int statements() {
      int many = 0;
      for (int at = 0; at < size; at++) {
        if (letterAt(at) == ';') many++;
      }
      return many;
    }

    /** The place of the first letter with which no HOUSE can go on; -1 it is a HOUSE. */
    int firstMisfit() {
      int next = STATEMENT;
      for (int at = 0; at < size; at++) {
        next = behind(next, letterAt(at));
        if (next == NOWHERE) return at;
      }
      return size > 0 && next == STATEMENT ? -1 : size;
    }

    /** The place of the first STATEMENT that is not as it must be; -1 all have been played. */
    int playOn(Tower tower) {
      int start = 0;
      for (int at = 0; at < size; at++) {
        if (letterAt(at) != ';') continue;
        boolean fine;
        switch (letterAt(start)) {
          case 'l': fine = playLodger(tower, start, at); break;
          case 'w': fine = playWish(tower, start); break;
          default: fine = playYear(tower, start, at); break;
        }
        if (!fine) return start;
        start = at + 1;
      }
      return -1;
    }

    private static int behind(int next, int c) {
      switch (next) {
        case STATEMENT: return behindStart(c);
        case KIND: return Kinds.ofLetter(c) >= 0 ? AGE : NOWHERE;
        case AGE: return isDigit(c) ? AGE_OR_COMMA : NOWHERE;
        case AGE_OR_COMMA: return isDigit(c) ? COMMA : behindAge(c);
        case COMMA: return behindAge(c);
        case LOAD: return isDigit(c) ? END : NOWHERE;
        case WISHING: return isDigit(c) ? WISHED : NOWHERE;
        case WISHED: return isDigit(c) ? END : NOWHERE;
        case END: return c == ';' ? STATEMENT : NOWHERE;
        default: return behindDead(next, c);
      }
    }

    private static int behindStart(int c) {
      switch (c) {
        case 'l': return KIND;
        case 'w': return WISHING;
        case 'y': return DEAD;
        default: return NOWHERE;
      }
    }

    private static int behindAge(int c) {
      return c == ',' ? LOAD : NOWHERE;
    }

    private static int behindDead(int next, int c) {
      if (c == ';') return STATEMENT;
      return isDigit(c) && next < DEAD + MOST_LODGERS ? next + 1 : NOWHERE;
    }

    // Start is the STATEMENT's first letter, end its ";".
    private boolean playLodger(Tower tower, int start, int end) {
      int kind = Kinds.ofLetter(letterAt(start + 1));
      int age = 0;
      for (int at = start + 2; at < end - 2; at++) age = age * 10 + digitAt(at);
      return tower.couldComeIn(kind, age) && tower.admit(kind, age, digitAt(end - 1)) >= 0;
    }

    private boolean playWish(Tower tower, int start) {
      int lodger = digitAt(start + 1);
      if (!tower.isAlive(lodger)) return false;
      tower.wished[lodger] = digitAt(start + 2);
      return true;
    }

    private boolean playYear(Tower tower, int start, int end) {
      int deaths = 0;
      for (int at = start + 1; at < end; at++) {
        int lodger = digitAt(at);
        if (!tower.isAlive(lodger) || Tower.holds(deaths, lodger)) return false;
        deaths |= 1 << lodger;
      }
      if (tower.yearNow >= LAST_YEAR) return false;
      tower.passYear(deaths);
      return true;
    }

    private int letterAt(int at) {
      return at >= 0 && at < size && at < MOST_LETTERS ? letters[at] : -1;
    }

    private int digitAt(int at) {
      return letterAt(at) - '0';
    }

    private static boolean isDigit(int c) {
      return c >= '0' && c <= '9';
    }
  }
}
