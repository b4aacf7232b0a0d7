/** For each promise of the document: ordinary calls, its edges, wrong calls; reckoned by hand. */
public final class PromisesTest extends Asking {
  private static final long LONG_REFUSAL = 4000000000000000000L;

  public static void main(String[] args) {
    newObject();
    letter();
    houseGrammar();
    houseMeaning();
    houseLeavesNothing();
    enter();
    lodger();
    kinds();
    wish();
    year();
    yearsEnd();
    on();
    likelyOneYear();
    likelyTwoYears();
    likelyRefused();
    mean();
    deaths();
    stuck();
    safe();
    carried();
    leastCarried();
    rings();
    changing();
    free();
    ages();
    row();
    fitting();
    judge();
    lots();
    imageAndBack();
    count();
    Check.end();
  }

  private static void newObject() {
    Check.under("promise 1: ");
    UpWhenDies x = new UpWhenDies();
    for (int what = 0; what <= 17; what++) {
      due("count(" + what + ")", x.count(what), what < 7 || what > 10 && what < 17 ? 0 : -9);
    }
    for (int f = 0; f < 10; f++) due("on(" + f + ")", x.on(f), -9);
    due("free()", x.free(), 1023);
    due("back()", x.back(), -3);
    for (int i = 0; i < 8; i++) due("lodger", x.lodger(i, 0), -1);
    due("count(11)", x.count(11), 8);
  }

  private static void letter() {
    Check.under("promise 2: ");
    UpWhenDies x = new UpWhenDies();
    due("letter(0)", x.letter(0), 1);
    due("letter(255)", x.letter(255), 2);
    due("letter(-1)", x.letter(-1), -4);
    due("letter(256)", x.letter(256), -6);
    due("letter(least)", x.letter(LEAST), -4);
    due("letter(greatest)", x.letter(GREATEST), -6);
    for (int n = 3; n <= 80; n++) due("letter", x.letter('y'), n);
    due("81st letter", x.letter('y'), -6);
    due("81st letter", x.letter(-1), -4);
    due("count(6)", x.count(6), 80);
    due("count(14)", x.count(14), 3);
    due("count(16)", x.count(16), 3);
    due("house()", x.house(), -1000);
    due("letter behind it", x.letter('y'), 1);
  }

  private static void houseGrammar() {
    Check.under("promise 3: ");
    String[] told = {"", "x", "L", ";", "l", "lx", "ll", "lla", "ll,", "ll1", "ll1;", "ll12", "ll123", "ll12;", "ll1,",
      "ll1,x", "ll1,,", "ll1,2", "ll1,23", "ll1,2;x", "ll1,2;;", "w", "wx", "w1", "w1x", "w12", "w123", "w1;",
      "y", "yx", "y1", "y1,", "y01234567", "y012345678", "y;y", "y;y;l", "y; ", "l 1"};
    int[] fault = {0, 0, 0, 0, 1, 1, 2, 2, 2, 3, 3, 4, 4, 4, 4,
      4, 4, 5, 5, 6, 6, 1, 1, 2, 2, 3, 3, 2,
      1, 1, 2, 2, 9, 9, 3, 5, 2, 1};
    UpWhenDies x = new UpWhenDies();
    for (int i = 0; i < told.length; i++) {
      due("house " + told[i], house(x, told[i]), -1000 - fault[i]);
      due("count(6)", x.count(6), 0);
    }
    due("count(1)", x.count(1), 0);
    for (int what = 11; what <= 16; what++) due("count(" + what + ")", x.count(what), 0);
    // The first kind goes before the second, wherever both stand.
    due("both kinds", house(x, "w00;x"), -1004);
    tell(x, "y;y;y;y;y;y;y;y;y;y;y;y;y;y;y;y;y;y;y;y;y;y;y;y;y;y;y;y;y;y;y;y;y;y;y;y;y;y;y;yy");
    due("80 letters, no end", x.house(), -1079);
    tell(x, "y;y;y;y;y;y;y;y;y;y;y;y;y;y;y;y;y;y;y;y;y;y;y;y;y;y;y;y;y;y;y;y;y;y;y;y;y;y;y;y0");
    due("80 letters, and the end lacks", x.house(), -1080);
    tell(x, "y;y;y;y;y;y;y;y;y;y;y;y;y;y;y;y;y;y;y;y;y;y;y;y;y;y;y;y;y;y;y;y;y;y;y;y;y;y;w00");
    due("79 letters, no end", x.house(), -1079);
    tell(x, "y;y;y;y;y;y;y;y;y;y;y;y;y;y;y;y;y;y;y;y;y;y;y;y;y;y;y;y;y;y;y;y;y;y;y;y;y;y;y;y;");
    due("80 letters", x.house(), 40);
    due("count(2)", x.count(2), 40);
  }

  private static void houseMeaning() {
    Check.under("promise 3: ");
    UpWhenDies x = with("ll25,3;ls07,5;li63,9;");
    dueFloors(x, 2, 0, 6);
    due("age", x.lodger(1, 1), 7);
    due("load", x.lodger(1, 3), 5);
    due("somebody lives there", house(x, "ll30,0;ll69,1;"), -2007);
    due("somebody came there ahead", house(x, "y;ll30,0;ll39,1;"), -2009);
    due("no such lodger", house(x, "w02;w30;"), -2004);
    due("number 8", house(x, "w80;"), -2000);
    due("number 9", house(x, "y9;"), -2000);
    due("told twice", house(x, "y;y11;"), -2002);
    due("died ahead", house(x, "y1;w10;"), -2003);
    due("died ahead", house(x, "y1;y1;"), -2003);
    due("count(2)", x.count(2), 0);
    due("count(0)", x.count(0), 3);
    // 2 dies: 0 and 1 move up, so that FLOORS 2 and 0 are free behind it.
    due("house", house(x, "w09;w15;y2;lc80,1;ll20,2;w00;"), 6);
    dueFloors(x, 3, 1, -1, 0, 2);
    due("the later wish", x.lodger(0, 6), 0);
    due("wish", x.lodger(1, 6), 5);
    due("no wish", x.lodger(3, 6), -9);
    due("no room", house(x, "ll90,0;ll80,0;ll70,0;ll60,0;"), -2021);
    due("house", house(x, "ll90,0;ll80,0;ll70,0;"), 3);
    due("no room, though some died", house(x, "y01;ll00,0;"), -2004);
    due("count(1)", x.count(1), 8);
    due("refusals", x.count(11), 1);
  }

  private static void houseLeavesNothing() {
    Check.under("promise 3: ");
    UpWhenDies x = with("ll10,1;ll20,2;w05;");
    due("house", house(x, "w19;w04;lc5,5;y1;ll90,1;w10;"), -2024);
    due("count(0)", x.count(0), 2);
    due("count(1)", x.count(1), 2);
    due("count(2)", x.count(2), 0);
    due("wish", x.lodger(0, 6), 5);
    due("wish", x.lodger(1, 6), -9);
    dueFloors(x, 1, 2);
    due("age", x.lodger(0, 1), 10);
    for (int i = 0; i < 99; i++) due("year(0)", x.year(0), 0);
    due("year above 99", house(x, "w03;y;"), -2004);
    due("wish", x.lodger(0, 6), 5);
    due("house", house(x, "w03;"), 1);
    due("count(2)", x.count(2), 99);
  }

  private static void enter() {
    Check.under("promise 4: ");
    UpWhenDies x = new UpWhenDies();
    due("enter(-1, 0, 0)", x.enter(-1, 0, 0), -2);
    due("enter(6, -1, 99)", x.enter(6, -1, 99), -2);
    due("enter(0, -1, 10)", x.enter(0, -1, 10), -4);
    due("enter(0, 100, -1)", x.enter(0, 100, -1), -4);
    due("enter(0, 100, 0)", x.enter(0, 100, 0), -6);
    due("enter(0, 0, 10)", x.enter(0, 0, 10), -6);
    due("enter(least)", x.enter(LEAST, LEAST, LEAST), -2);
    due("enter(greatest)", x.enter(0, GREATEST, GREATEST), -6);
    due("enter(0, 99, 9)", x.enter(0, 99, 9), 0);
    due("enter(0, 90, 0)", x.enter(0, 90, 0), -3);
    due("enter(0, 90, 10)", x.enter(0, 90, 10), -6);
    due("enter(5, 9, 0)", x.enter(5, 9, 0), 1);
    due("enter(3, 55, 0)", x.enter(3, 55, 0), -3);
    for (int i = 2; i < 8; i++) due("enter", x.enter(0, 10 * i, i), i);
    dueFloors(x, 9, 0, 2, 3, 4, 5, 6, 7);
    due("no room goes before somebody there", x.enter(0, 99, 0), -6);
    due("no room", x.enter(0, 80, 0), -6);
    due("year", x.year(128), 6);
    due("the dead one's room is not given again", x.enter(0, 90, 0), -6);
    due("count(12)", x.count(12), 3);
    due("count(13)", x.count(13), 2);
    due("count(14)", x.count(14), 2);
    due("count(16)", x.count(16), 7);
  }

  private static void lodger() {
    Check.under("promise 5: ");
    UpWhenDies x = with("ls47,5;w08;lc80,1;y;");
    int[] due0 = {1, 48, 4, 5, 2, 7, 8};
    int[] due1 = {3, 81, 0, 1, 8, 3, -9};
    for (int what = 0; what < 7; what++) {
      due("lodger(0, " + what + ")", x.lodger(0, what), due0[what]);
      due("lodger(1, " + what + ")", x.lodger(1, what), due1[what]);
    }
    due("lodger(0, 7)", x.lodger(0, 7), -2);
    due("lodger(0, -1)", x.lodger(0, -1), -2);
    due("lodger(2, 0)", x.lodger(2, 0), -1);
    due("lodger(-1, 7)", x.lodger(-1, 7), -1);
    due("lodger(8, 0)", x.lodger(8, 0), -1);
    due("lodger(least, 0)", x.lodger(LEAST, 0), -1);
    due("lodger(greatest, 0)", x.lodger(GREATEST, 0), -1);
    due("year(1)", x.year(1), 0);
    due("a dead one", x.lodger(0, 0), -1);
    due("count(11)", x.count(11), 6);
    due("count(12)", x.count(12), 2);
  }

  private static void dueKind(int kind, int age, int floor, int chance, int climb) {
    UpWhenDies x = new UpWhenDies();
    String who = "kind " + kind + " of " + age + ", ";
    due(who + "enter", x.enter(kind, age, 0), 0);
    due(who + "kind", x.lodger(0, 0), kind);
    due(who + "floor", x.lodger(0, 2), floor);
    due(who + "chance", x.lodger(0, 4), chance);
    due(who + "climbs", x.lodger(0, 5), climb);
  }

  private static void kinds() {
    Check.under("promise 5: ");
    dueKind(0, 0, 0, 0, 9);
    dueKind(0, 11, 1, 1, 9);
    dueKind(0, 12, 1, 1, 8);
    dueKind(0, 59, 5, 5, 5);
    dueKind(0, 99, 9, 9, 1);
    dueKind(1, 0, 0, 0, 9);
    dueKind(1, 35, 3, 1, 9);
    dueKind(1, 36, 3, 1, 8);
    dueKind(1, 99, 9, 4, 3);
    dueKind(2, 0, 0, 3, 9);
    dueKind(2, 69, 6, 9, 4);
    dueKind(2, 70, 7, 10, 4);
    dueKind(2, 85, 8, 10, 2);
    dueKind(3, 0, 0, 0, 9);
    dueKind(3, 99, 0, 9, 1);
    dueKind(4, 5, 0, 1, 9);
    dueKind(4, 64, 6, 7, 4);
    dueKind(4, 99, 9, 8, 1);
    dueKind(5, 9, 0, 0, 9);
    dueKind(5, 19, 0, 0, 9);
    dueKind(5, 20, 1, 0, 9);
    dueKind(5, 49, 3, 0, 7);
    dueKind(5, 50, 4, 2, 7);
    dueKind(5, 99, 8, 4, 3);
  }

  private static void wish() {
    Check.under("promise 6: ");
    UpWhenDies x = with("ll10,0;ll20,0;y1;");
    due("wish(0, 9)", x.wish(0, 9), -9);
    due("wish(0, 0)", x.wish(0, 0), 9);
    due("wish(0, 10)", x.wish(0, 10), -1);
    due("wish(0, -2)", x.wish(0, -2), -1);
    due("wish(0, least)", x.wish(0, LEAST), -1);
    due("wish(0, greatest)", x.wish(0, GREATEST), -1);
    due("a dead one", x.wish(1, 5), -1);
    due("none such", x.wish(2, 5), -1);
    due("none such", x.wish(-1, -1), -1);
    due("lodger(0, 6)", x.lodger(0, 6), 0);
    due("wish(0, -1)", x.wish(0, -1), 0);
    due("lodger(0, 6)", x.lodger(0, 6), -9);
    due("wish(0, -1)", x.wish(0, -1), -9);
    due("count(11)", x.count(11), 7);
  }

  private static void year() {
    Check.under("promise 7: ");
    UpWhenDies x = with("ll20,0;lc30,0;ll60,0;ll99,0;ll40,0;");
    due("one that never came", x.year(32), -1);
    due("a far bit", x.year(LEAST), -1);
    due("one of them never came", x.year(256 + 1), -1);
    due("count(2)", x.count(2), 0);
    // 4 and 3 die: 0 has both above, 2 only one, the CELLAR none of it.
    due("year(24)", x.year(24), 2);
    dueFloors(x, 4, 0, 7, -1, -1);
    due("age", x.lodger(0, 1), 21);
    due("age", x.lodger(1, 1), 31);
    due("count(2)", x.count(2), 1);
    due("a dead one", x.year(16), -1);
    due("the lowest dies", x.year(2), 0);
    due("the upper one dies", x.year(4), 1);
    dueFloors(x, 5);
    due("year(0)", x.year(0), 0);
    due("count(2)", x.count(2), 4);
    due("all die", x.year(1), 0);
    due("count(0)", x.count(0), 0);
    due("year(0)", x.year(0), 0);
    due("count(11)", x.count(11), 6);
    // A CELLAR who has come up by a ring moves up like all.
    x = with("lc30,0;ll40,0;ll99,0;w04;w10;");
    due("changing()", x.changing(), 2);
    due("year(4)", x.year(4), 2);
    dueFloors(x, 5, 1);
  }

  private static void yearsEnd() {
    Check.under("promise 7: ");
    UpWhenDies x = with("ll98,0;ll10,0;");
    for (int i = 1; i <= 99; i++) {
      due("year(0)", x.year(0), 0);
      due("age", x.lodger(0, 1), 99);
      due("age", x.lodger(1, 1), Math.min(99, 10 + i));
      due("count(2)", x.count(2), i);
    }
    due("year 100", x.year(0), -6);
    due("year 100 of one dead", x.year(4), -1);
    due("count(2)", x.count(2), 99);
    due("count(16)", x.count(16), 1);
    due("carried goes on", x.carried(1), 0);
  }

  private static void on() {
    Check.under("promise 8: ");
    UpWhenDies x = with("lc99,0;ll90,0;ll50,0;");
    due("on(0)", x.on(0), 0);
    due("on(9)", x.on(9), 1);
    due("on(5)", x.on(5), 2);
    due("on(4)", x.on(4), -9);
    due("on(-1)", x.on(-1), -1);
    due("on(10)", x.on(10), -1);
    due("on(least)", x.on(LEAST), -1);
    due("on(greatest)", x.on(GREATEST), -1);
    due("year(2)", x.year(2), 1);
    due("on(9)", x.on(9), -9);
    due("on(5)", x.on(5), -9);
    due("on(6)", x.on(6), 2);
    due("count(11)", x.count(11), 4);
  }

  private static void likelyOneYear() {
    Check.under("promise 9: ");
    UpWhenDies x = with("ll30,0;ll50,0;ll90,0;li79,0;lc20,0;ly29,0;");
    dueLikely(x, 3, 7, 1, 0, 1);
    dueLikely(x, 3, 0, 1, 0, 1);
    dueLikely(x, 4, 0, 1, 4, 5);
    dueLikely(x, 4, 1, 1, 0, 1);
    dueLikely(x, 5, 1, 1, 1, 1);
    dueLikely(x, 5, 0, 1, 1, 1);
    dueLikely(x, 2, 9, 1, 1, 10);
    due("year", x.year(8), 3);
    // Now 0 lives on 4, 1 on 6, 2 on 9, CHANCES 3, 5 and 9.
    dueLikely(x, 0, 4, 1, 7, 10);
    dueLikely(x, 0, 0, 1, 7, 10);
    dueLikely(x, 0, 5, 1, 133, 200);
    dueLikely(x, 0, 6, 1, 63, 200);
    dueLikely(x, 0, 7, 1, 0, 1);
    dueLikely(x, 1, 7, 1, 9, 20);
  }

  private static void likelyTwoYears() {
    Check.under("promise 9: ");
    UpWhenDies x = with("ll30,0;ll50,0;ll90,0;");
    dueLikely(x, 0, 3, 2, 49, 100);
    dueLikely(x, 0, 4, 2, 19551, 40000);
    dueLikely(x, 0, 5, 2, 14553, 40000);
    dueLikely(x, 0, 6, 2, 0, 1);
    x = with("ll90,0;ll50,0;lc20,0;y;y;");
    // He lives by 0.5 (0.25), above him 0.9 (0.99) die: the first of all counts, too.
    dueLikely(x, 1, 6, 1, 9, 20);
    dueLikely(x, 1, 6, 2, 99, 400);
    // By AGE then: 39 and 40, 99 and 99.
    x = with("ll39,0;ll99,0;");
    dueLikely(x, 0, 3, 2, 21, 50);
    dueLikely(x, 1, 9, 2, 1, 100);
    // 0.49 (he lives) * 0.91 * 0.51 * 0.96 * 0.64 * 0.99 * 0.75 (all six above him die).
    x = with("ll30,0;li46,0;ls60,0;ld71,0;ly99,0;ll90,0;ll50,0;lc3,0;");
    dueLikely(x, 7, 0, 2, 1, 1);
    dueLikely(x, 7, 1, 2, 0, 1);
    dueLikely(x, 0, 9, 2, 202621419L, 1953125000L);
  }

  private static void likelyRefused() {
    Check.under("promise 9: ");
    UpWhenDies x = with("ll30,0;ll50,0;y1;");
    due("likely(1, ..)", x.likely(1, 3, 1, 0), LONG_REFUSAL + 1);
    due("likely(2, ..)", x.likely(2, 3, 0, 2), LONG_REFUSAL + 1);
    due("likely(-1, ..)", x.likely(-1, 3, 1, 0), LONG_REFUSAL + 1);
    due("likely(0, 10, ..)", x.likely(0, 10, 3, 2), LONG_REFUSAL + 1);
    due("likely(0, -1, ..)", x.likely(0, -1, 1, 0), LONG_REFUSAL + 1);
    due("likely(0, 0, 0, 2)", x.likely(0, 0, 0, 2), LONG_REFUSAL + 4);
    due("likely(0, 0, least, 2)", x.likely(0, 0, LEAST, 2), LONG_REFUSAL + 4);
    due("likely(0, 0, 3, 2)", x.likely(0, 0, 3, 2), LONG_REFUSAL + 6);
    due("likely(0, 0, 2, 2)", x.likely(0, 0, 2, 2), LONG_REFUSAL + 2);
    due("likely(0, 0, 2, -1)", x.likely(0, 0, 2, -1), LONG_REFUSAL + 2);
    int[] counted = {5, 2, 0, 2, 0, 1};
    for (int i = 0; i < 6; i++) due("count(" + (11 + i) + ")", x.count(11 + i), counted[i]);
  }

  private static void mean() {
    Check.under("promise 10: ");
    UpWhenDies x = new UpWhenDies();
    due("mean()", x.mean(), 0);
    due("house", house(x, "ll25,0;ls47,0;li63,0;lc80,0;ld99,0;ly88,0;"), 6);
    due("mean()", x.mean(), 2 + 2 + 9 + 8 + 8 + 4);
    due("year", x.year(4), 2);
    due("mean()", x.mean(), 2 + 2 + 8 + 8 + 4);
    due("year", x.year(0), 0);
    due("mean() with one older", x.mean(), 2 + 2 + 8 + 8 + 4 + 0);
    due("year", x.year(0), 0);
    due("year", x.year(0), 0);
    due("year", x.year(0), 0);
    due("mean() of 30, 52, 85, 99, 93", x.mean(), 3 + 2 + 8 + 8 + 4);
    due("mean() now, not a year later", with("ll39,0;").mean(), 3);
  }

  private static void deaths() {
    Check.under("promise 11: ");
    // FLOORS 2, 4, 6, 0, 9, 7, 5; CHANCES 2, 2, 9, 8, 8, 4, 8.
    UpWhenDies x = with("ll25,0;ls47,0;li63,0;lc80,0;ld99,0;ly88,0;li50,0;");
    dueDeaths(x, 0, 2, -9, -9);
    dueDeaths(x, 0, 1, -9, -9);
    dueDeaths(x, 0, 3, 1, 4);
    dueDeaths(x, 0, 4, 2, 4 + 16);
    dueDeaths(x, 0, 5, 3, 4 + 16 + 64);
    dueDeaths(x, 0, 6, 4, 4 + 16 + 64 + 32);
    dueDeaths(x, 0, 7, 5, 4 + 16 + 64 + 32 + 2);
    dueDeaths(x, 0, 8, -9, -9);
    dueDeaths(x, 2, 7, 1, 16);
    dueDeaths(x, 2, 8, 2, 16 + 32);
    dueDeaths(x, 2, 9, -9, -9);
    dueDeaths(x, 4, 9, -9, -9);
    dueDeaths(x, 3, 1, -9, -9);
    due("deaths(7, 3, 0)", x.deaths(7, 3, 0), -1);
    due("deaths(-1, 3, 2)", x.deaths(-1, 3, 2), -1);
    due("deaths(0, 10, 2)", x.deaths(0, 10, 2), -1);
    due("deaths(0, -1, 0)", x.deaths(0, -1, 0), -1);
    due("deaths(0, 3, 2)", x.deaths(0, 3, 2), -2);
    due("deaths(0, 1, -1)", x.deaths(0, 1, -1), -2);
    due("count(11)", x.count(11), 4);
    due("count(12)", x.count(12), 2);
    // Of several the least numbers, the first of all among them; by the CHANCE now (2 is older in a YEAR).
    x = with("li50,0;ls66,0;ll79,0;ll80,0;ll20,0;");
    dueDeaths(x, 4, 3, 1, 1);
    dueDeaths(x, 4, 4, 2, 1 + 8);
    dueDeaths(x, 4, 5, 3, 1 + 8 + 4);
    x = with("ll90,0;ll79,0;ll40,0;li50,0;");
    dueDeaths(x, 2, 5, 1, 1);
    dueDeaths(x, 2, 6, 2, 1 + 8);
    // A CELLAR who has come up by a ring is as all others.
    x = with("lc20,0;ll10,0;ll90,0;w01;w10;");
    dueDeaths(x, 0, 1, -9, -9);
    due("changing()", x.changing(), 2);
    dueDeaths(x, 0, 2, 1, 4);
    dueDeaths(x, 1, 1, 1, 4);
    dueDeaths(x, 1, 2, 2, 5);
  }

  private static void stuck() {
    Check.under("promise 12: ");
    // FLOORS 5, 6, 8, 0, 9, 7 against 5, 4, 4, 1, 1, 4.
    UpWhenDies x = with("ll59,0;li60,0;ls85,0;lc99,0;ld98,0;ly84,0;");
    due("stuck()", x.stuck(), 2 + 4 + 16 + 32);
    due("year", x.year(16), 4);
    due("stuck() with all older and higher", x.stuck(), 1 + 2 + 4 + 32);
    due("all die", x.year(47), 0);
    due("stuck()", x.stuck(), 0);
  }

  private static void safe() {
    Check.under("promise 13: ");
    UpWhenDies x = with("lc50,0;ll10,0;ll20,0;ll30,0;ll59,0;ll90,0;ls60,0;");
    int[] years = {99, 99, 75, 53, 0, -9, 11};
    for (int i = 0; i < 7; i++) due("safe(" + i + ")", x.safe(i), years[i]);
    due("safe(7)", x.safe(7), -1);
    due("safe(-1)", x.safe(-1), -1);
    due("year", x.year(64), 4);
    years = new int[] {99, 84, 62, 40, -9, -9};
    for (int i = 0; i < 6; i++) due("safe(" + i + ")", x.safe(i), years[i]);
    due("safe(6)", x.safe(6), -1);
    due("count(11)", x.count(11), 3);
  }

  private static void carried() {
    Check.under("promise 14: ");
    // FLOORS 2, 0, 6, 9, 4 with LOADS 3, 9, 5, 7, 1.
    UpWhenDies x = with("ll20,3;lc30,9;ll60,5;ll99,7;ll40,1;");
    due("carried(0)", x.carried(0), 0);
    due("carried(8)", x.carried(8), 3 + 5 + 1);
    due("carried(4)", x.carried(4), 3 + 1);
    due("carried(1)", x.carried(1), 0);
    due("carried(2)", x.carried(2), 0);
    due("carried(12)", x.carried(12), 2 * 3 + 2 * 1);
    due("carried(24)", x.carried(24), 2 * 3 + 5);
    due("carried(28)", x.carried(28), 3 * 3);
    due("carried(31)", x.carried(31), 0);
    due("carried(32)", x.carried(32), -1);
    due("carried(-1)", x.carried(-1), -1);
    due("carried(257)", x.carried(257), -1);
    dueFloors(x, 2, 0, 6, 9, 4);
    due("year(8)", x.year(8), 3);
    due("carried(8)", x.carried(8), -1);
    due("count(11)", x.count(11), 4);
  }

  private static void leastCarried() {
    Check.under("promise 15: ");
    UpWhenDies x = new UpWhenDies();
    due("leastCarried()", x.leastCarried(), -9);
    due("house", house(x, "ll90,5;ll10,2;ll20,0;ll0,7;"), 4);
    // Alone: 9, 7, 9, 0.
    due("leastCarried()", x.leastCarried(), 3);
    due("year(8)", x.year(8), 0);
    // Alone: 2, 0, 2.
    due("leastCarried()", x.leastCarried(), 1);
    x = with("ll90,5;ll50,0;ll20,4;lc20,9;");
    // Alone: 4, 4, 0, 0.
    due("the first of several", x.leastCarried(), 2);
    x = with("ll90,5;ll50,3;ll20,4;ll0,1;y3;");
    due("leastCarried()", x.leastCarried(), 2);
    due("year(4)", x.year(4), 0);
    due("leastCarried()", x.leastCarried(), 1);
    due("all die", x.year(3), 0);
    due("leastCarried()", x.leastCarried(), -9);
    x = with("ll10,3;ll20,2;ll30,1;");
    // Alone: 0, 3, 5.
    due("the first of all", x.leastCarried(), 0);
    due("year(1)", x.year(1), 0);
    due("the first who lives", x.leastCarried(), 1);
  }

  private static void rings() {
    Check.under("promise 16: ");
    UpWhenDies x = with("ll10,0;ll20,0;ll30,0;ll40,0;ll50,0;ll60,0;ll70,0;");
    due("rings()", x.rings(), 0);
    due("house", house(x, "w02;w13;w21;w34;w41;w59;w66;"), 7);
    due("one of three, one alone", x.rings(), 1 + 2 + 4 + 8);
    due("wish", x.wish(5, 7), 9);
    due("another of two", x.rings(), 1 + 2 + 4 + 8 + 32 + 64);
    due("wish", x.wish(2, -1), 1);
    due("broken by no wish", x.rings(), 8 + 32 + 64);
    due("wish", x.wish(2, 0), -9);
    due("broken by a free floor", x.rings(), 8 + 32 + 64);
    // When 6 dies all move up by one: 0, 1 and 5 live where they wish then.
    due("year(64)", x.year(64), 6);
    due("rings()", x.rings(), 1 + 2 + 32);
    x = with("ll0,0;ll10,0;ll20,0;ll30,0;ll40,0;ll50,0;ll60,0;ll70,0;w01;w12;w23;w34;");
    due("house", house(x, "w45;w56;w67;"), 3);
    due("a chain", x.rings(), 0);
    due("wish", x.wish(7, 0), -9);
    due("all eight", x.rings(), 255);
    due("wish", x.wish(7, 1), 0);
    due("all but the first", x.rings(), 254);
  }

  private static void changing() {
    Check.under("promise 17: ");
    UpWhenDies x = with("ll10,0;ll20,0;ll30,0;ll40,0;ll50,0;w02;w13;w21;w34;w41;");
    due("changing()", x.changing(), 3);
    dueFloors(x, 2, 3, 1, 4, 5);
    for (int i = 0; i < 4; i++) due("lodger(" + i + ", 6)", x.lodger(i, 6), -9);
    due("lodger(4, 6)", x.lodger(4, 6), 1);
    due("age", x.lodger(0, 1), 10);
    due("changing()", x.changing(), 0);
    due("wish", x.wish(2, 5), -9);
    due("changing()", x.changing(), 2);
    dueFloors(x, 2, 3, 5, 4, 1);
    due("year is as it was", x.count(2), 0);
    due("changing()", new UpWhenDies().changing(), 0);
  }

  private static void free() {
    Check.under("promise 18: ");
    UpWhenDies x = with("lc99,0;ll90,0;ll50,0;");
    due("free()", x.free(), 1023 - 1 - 512 - 32);
    due("year", x.year(2), 1);
    due("free()", x.free(), 1023 - 1 - 64);
    due("year", x.year(5), 0);
    due("free()", x.free(), 1023);
  }

  private static void ages() {
    Check.under("promise 19: ");
    UpWhenDies x = with("ll0,0;ll10,0;ll30,0;ll95,0;");
    int[] many = {60, 60, 60, 0, 60, 60};
    int[] least = {20, 20, 20, -9, 20, 30};
    for (int kind = 0; kind < 6; kind++) {
      due("ages(" + kind + ", 0)", x.ages(kind, 0), many[kind]);
      due("ages(" + kind + ", 1)", x.ages(kind, 1), least[kind]);
    }
    due("ages(-1, 0)", x.ages(-1, 0), -2);
    due("ages(6, 1)", x.ages(6, 1), -2);
    due("ages(0, 2)", x.ages(0, 2), -2);
    due("ages(0, -1)", x.ages(0, -1), -2);
    due("count(12)", x.count(12), 4);
    due("house", house(x, "ll20,0;ll40,0;ll50,0;ll60,0;"), 4);
    due("no room", x.ages(0, 0), 0);
    due("no room", x.ages(0, 1), -9);
    due("all die", x.year(255), 0);
    due("no room ever", x.ages(0, 0), 0);
    x = new UpWhenDies();
    due("ages(5, 0)", x.ages(5, 0), 100);
    due("ages(5, 1)", x.ages(5, 1), 0);
  }

  private static void row() {
    Check.under("promise 20: ");
    UpWhenDies x = new UpWhenDies();
    due("row(-1)", x.row(-1), -4);
    due("row(11)", x.row(11), -6);
    due("row(least)", x.row(LEAST), -4);
    due("row(greatest)", x.row(GREATEST), -6);
    tellRow(x, 0, 10, 3, 3, 9, 1, 0, 10);
    due("a ninth", x.row(0), -6);
    due("a ninth", x.row(-1), -4);
    due("count(5)", x.count(5), 8);
    due("count(14)", x.count(14), 3);
    due("count(16)", x.count(16), 3);
  }

  private static void fitting() {
    Check.under("promise 21: ");
    UpWhenDies x = new UpWhenDies();
    dueFitting(x, 1, 0);
    // FLOORS 1, 3, 5, 8, 0.
    due("house", house(x, "ll10,0;ll30,0;ll50,0;ll80,0;lc70,0;"), 5);
    due("too short", x.fitting(0), -3);
    due("what goes first", x.fitting(2), -2);
    due("what", x.fitting(-1), -2);
    tellRow(x, 10, 10, 10, 10, 10);
    dueFitting(x, 32, 0);
    due("judge()", x.judge(), 0);
    tellRow(x, 1, 3, 5, 8, 0);
    dueFitting(x, 1, 0);
    due("judge()", x.judge(), -9);
    // One of the three above the first, the CELLAR as he likes.
    tellRow(x, 2, 10, 10, 10, 10);
    dueFitting(x, 6, 2);
    due("judge()", x.judge(), 0);
    tellRow(x, 2, 10, 5, 10, 0);
    dueFitting(x, 1, 2);
    due("judge()", x.judge(), 0);
    tellRow(x, 10, 4, 10, 8, 10);
    dueFitting(x, 4, 4);
    due("judge()", x.judge(), 0);
    tellRow(x, 10, 10, 10, 10, 1);
    dueFitting(x, 0, -9);
    tellRowOn(x, 10);
    due("too long", x.fitting(1), -3);
    due("judge()", x.judge(), 0);
    due("year(8)", x.year(8), 3);
    due("too short", x.fitting(1), -3);
    // Of those who live now, in their order: 0, 1, 2, 4 on 2, 4, 6, 0.
    tellRow(x, 3, 10, 6, 0);
    dueFitting(x, 1, 2);
    due("the row stays", x.count(5), 4);
    dueFloors(x, 2, 4, 6);
    due("count(12)", x.count(12), 2);
    due("count(13)", x.count(13), 3);
  }

  private static void tellRowOn(UpWhenDies x, int number) {
    due("row(" + number + ")", x.row(number), x.count(5));
  }

  private static void judge() {
    Check.under("promise 22: ");
    UpWhenDies x = new UpWhenDies();
    due("judge()", x.judge(), -9);
    tellRow(x, 4);
    due("too long", x.judge(), 0);
    due("count(5)", x.count(5), 0);
    due("house", house(x, "ll10,0;ll90,0;ll30,0;ll50,0;y1;"), 5);
    // FLOORS 2, 4, 6 of 0, 2 and 3.
    tellRow(x, 2, 4, 6);
    due("judge()", x.judge(), -9);
    due("judge()", x.judge(), 0);
    tellRow(x, 2, 4);
    due("too short", x.judge(), 2);
    tellRow(x, 2, 4, 6, 8);
    due("too long", x.judge(), 3);
    tellRow(x, 2, 5, 6, 8);
    due("the second", x.judge(), 1);
    tellRow(x, 3);
    due("the first", x.judge(), 0);
    tellRow(x, 2, 4, 10);
    due("not known", x.judge(), 2);
    due("the row has none", x.count(5), 0);
    due("count(13)", x.count(13), 0);
  }

  private static int draw(int[] z) {
    z[0] = z[0] * 1664525 + 1013904223;
    return (z[0] & 0x7fffffff) / 256 % 10;
  }

  private static void lots() {
    Check.under("promise 23: ");
    UpWhenDies x = with("ll39,0;li79,0;lc0,0;ll50,0;y3;ll55,0;");
    due("lots(0, 1)", x.lots(0, 1), -4);
    due("lots(least, 1)", x.lots(LEAST, 1), -4);
    due("lots(41, 1)", x.lots(41, 1), -6);
    due("lots(greatest, 1)", x.lots(GREATEST, 1), -6);
    int[] seeds = {0, 1, -1, 7, 12345, LEAST, GREATEST};
    for (int seed : seeds) {
      // 0 is 40 by now (CHANCE 4), 1 is 80 (10: whatever is drawn, he dies), 2 is 1 (0: he never dies), 4 is 55.
      int[] z = {seed};
      int living = 1 + 2 + 4 + 16;
      if (draw(z) < 4) living -= 1;
      if (draw(z) < 10) living -= 2;
      draw(z);
      if (draw(z) < 5) living -= 16;
      due("lots(1, " + seed + ")", x.lots(1, seed), living);
      if ((living & 1) != 0 && draw(z) < 4) living -= 1;
      draw(z);
      if ((living & 16) != 0 && draw(z) < 5) living -= 16;
      due("lots(2, " + seed + ")", x.lots(2, seed), living);
    }
    dueFloors(x, 4, 7, 0, -1, 5);
    due("count(0)", x.count(0), 4);
    due("count(14)", x.count(14), 2);
    due("count(16)", x.count(16), 2);
    due("lots(40, 3)", new UpWhenDies().lots(40, 3), 0);
    lotsByAgeThen();
  }

  private static void lotsByAgeThen() {
    // At 9 nobody dies, at 10 by one in ten; the first YEAR's draw kills nobody, whatever it is.
    for (int seed = 0; seed < 60; seed++) {
      UpWhenDies x = with("ll9,0;");
      int[] z = {seed * 1000003};
      draw(z);
      due("lots(1, ..)", x.lots(1, seed * 1000003), 1);
      due("lots(2, ..)", x.lots(2, seed * 1000003), draw(z) < 1 ? 0 : 1);
    }
  }

  private static void imageAndBack() {
    Check.under("promise 24, 25: ");
    UpWhenDies x = new UpWhenDies();
    due("back()", x.back(), -3);
    due("house", house(x, "ll10,1;ls22,2;w05;y;"), 4);
    tellRow(x, 4);
    due("image()", x.image(), 1);
    due("house", house(x, "w17;w03;lc70,3;y1;y;"), 5);
    due("row", x.row(5), 2);
    due("letter", x.letter('y'), 1);
    due("lodger(1, 0)", x.lodger(1, 0), -1);
    for (int i = 0; i < 2; i++) {
      due("back()", x.back(), 1);
      int[] counts = {2, 2, 1, 3, 34, 2, 1};
      for (int what = 0; what < 7; what++) due("count(" + what + ")", x.count(what), counts[what]);
      due("count(11)", x.count(11), 1 + i);
      due("count(13)", x.count(13), 1);
      int[] first = {0, 11, 1, 1, 1, 9, 5};
      int[] second = {1, 23, 2, 2, 1, 9, -9};
      for (int what = 0; what < 7; what++) {
        due("lodger(0, " + what + ")", x.lodger(0, what), first[what]);
        due("lodger(1, " + what + ")", x.lodger(1, what), second[what]);
      }
      due("lodger(2, 0)", x.lodger(2, 0), -1);
      // What goes on from it leaves the image as it was.
      due("enter", x.enter(4, 70, 9), 2);
      due("wish", x.wish(0, 2), 5);
      due("year", x.year(4), 2);
    }
    due("image()", x.image(), 2);
    due("year", x.year(3), 0);
    due("back()", x.back(), 2);
    due("count(0)", x.count(0), 2);
    dueFloors(x, 2, 3);
    due("wish", x.lodger(0, 6), 2);
  }

  private static void count() {
    Check.under("promise 26: ");
    UpWhenDies x = with("ll10,1;ls22,2;li95,9;y2;");
    tellRow(x, 4, 4);
    tell(x, "yyy");
    int[] counts = {2, 3, 1, 3, 34, 2, 3};
    for (int what = 0; what < 7; what++) due("count(" + what + ")", x.count(what), counts[what]);
    int[] others = {-1, 7, 8, 9, 10, 17, 18, 100, LEAST, GREATEST};
    for (int what : others) due("count(" + what + ")", x.count(what), -9);
    due("on(10)", x.on(10), -1);
    due("ages(6, 0)", x.ages(6, 0), -2);
    due("ages(6, 0)", x.ages(6, 0), -2);
    due("back()", x.back(), -3);
    due("row(-1)", x.row(-1), -4);
    due("row(11)", x.row(11), -6);
    due("row(11)", x.row(11), -6);
    due("row(11)", x.row(11), -6);
    int[] refusals = {1, 2, 1, 1, 0, 3};
    for (int i = 0; i < 6; i++) due("count(" + (11 + i) + ")", x.count(11 + i), refusals[i]);
  }
}
