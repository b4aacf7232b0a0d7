/** The boundary cases that the document names under each of its promises. */
final class PromiseBoundaries extends Boundaries {
  private static final long LONG_REFUSAL = 4000000000000000000L;
  private static final int[] NO_LODGERS = {-1, 2, 7, 8, 9, 31, 32, 33, LEAST, GREATEST};
  private static final int[] NO_FLOORS = {-1, 10, 11, LEAST, GREATEST};

  PromiseBoundaries() {
    newObject();
    letter();
    house();
    enter();
    enterWithoutRoom();
    lodger();
    wish();
    year();
    on();
    likely();
    mean();
    deaths();
    stuck();
    safe();
    carried();
    leastCarried();
    rings();
    changing();
    free();
    ages();
    row();
    fitting();
    judge();
    lots();
    imageAndBack();
    count();
  }

  /** LODGERS 0 and 1 came, 1 has died. */
  private static UpWhenDies oneAlive() {
    return with("ll10,0;ll0,0;y1;");
  }

  private static void dueRefusals(UpWhenDies x, int... counted) {
    for (int i = 0; i < counted.length; i++) due("count(" + (11 + i) + ")", x.count(11 + i), counted[i]);
  }

  private void newObject() {
    under("Promise 1: A new object");
    bound("Nobody lives there.", "all is empty", () -> {
      UpWhenDies x = new UpWhenDies();
      for (int what = 0; what <= 6; what++) due("count(" + what + ")", x.count(what), 0);
      dueRefusals(x, 0, 0, 0, 0, 0, 0);
      for (int floor = 0; floor < 10; floor++) due("on(" + floor + ")", x.on(floor), -9);
      due("free()", x.free(), 1023);
      for (int i = 0; i < 8; i++) due("lodger(" + i + ", 0)", x.lodger(i, 0), -1);
    }).brokenBy("people = new ArrayList<>();", "people = new ArrayList<>(List.of(new Person()));");
  }

  private void letter() {
    under("Promise 2: letter");
    bound("A letter (0 .. 255) comes: how many there are.", "the least, the greatest, the 80th", () -> {
      UpWhenDies x = new UpWhenDies();
      due("letter(0)", x.letter(0), 1);
      due("letter(255)", x.letter(255), 2);
      for (int n = 3; n <= 80; n++) due("letter", x.letter('y'), n);
      due("count(6)", x.count(6), 80);
    }).brokenBy("if (c > 255 ||", "if (c > 254 ||")
        .brokenBy("    if (c < 0) return no(-4);", "    if (c < 1) return no(-4);");

    bound("-4;", "below 0", () -> {
      UpWhenDies x = new UpWhenDies();
      due("letter(-1)", x.letter(-1), -4);
      due("letter(least)", x.letter(LEAST), -4);
      due("count(6)", x.count(6), 0);
      dueRefusals(x, 0, 0, 0, 2, 0, 0);
    }).brokenBy("    if (c < 0) return no(-4);", "    if (c < -1) return no(-4);");

    bound("-6 (255; 80, too).", "above 255", () -> {
      UpWhenDies x = new UpWhenDies();
      due("letter(256)", x.letter(256), -6);
      due("letter(greatest)", x.letter(GREATEST), -6);
      due("count(6)", x.count(6), 0);
      dueRefusals(x, 0, 0, 0, 0, 0, 2);
    }).brokenBy("if (c > 255 ||", "if (c > 256 ||");

    bound("-6 (255; 80, too).", "an 81st letter, and -4 goes before it", () -> {
      UpWhenDies x = new UpWhenDies();
      tell(x, "y".repeat(80));
      due("letter", x.letter('y'), -6);
      due("letter(256)", x.letter(256), -6);
      due("letter(-1)", x.letter(-1), -4);
      due("count(6)", x.count(6), 80);
      dueRefusals(x, 0, 0, 0, 1, 0, 2);
    }).brokenBy("text.length() == 80) return no(-6);", "text.length() == 81) return no(-6);")
        .brokenBy("    if (c < 0) return no(-4);", "    if (c < 0 && text.length() < 80) return no(-4);");
  }

  private void house() {
    under("Promise 3: house");
    bound("and are no more (with a FAULT neither)", "without FAULT, with one of kind 1, of kind 2", () -> {
      UpWhenDies x = new UpWhenDies();
      String[] told = {"y;", "yy", "w00;", "x"};
      int[] want = {1, -1001, -2000, -1000};
      for (int i = 0; i < 4; i++) {
        dueHouse(x, told[i], want[i]);
        due("count(6)", x.count(6), 0);
        due("house()", x.house(), -1000);
      }
    }).brokenBy("String told = text;\n    text = \"\";", "String told = text;\n    if (misfit(told) < 0) text = \"\";")
        .brokenBy("String told = text;\n    text = \"\";",
            "String told = text;\n    if (misfit(told) >= 0) text = \"\";")
        .brokenBy("String told = text;\n    text = \"\";",
            "String told = text;\n    text = told.equals(\"w00;\") ? told : \"\";");

    bound("how many STATEMENTS;", "one and forty", () -> {
      UpWhenDies x = new UpWhenDies();
      dueHouse(x, "y;", 1);
      dueHouse(x, "y;".repeat(40), 40);
      dueHouse(x, "ll1,0;w11;y1;w01;", -2006);
      dueHouse(x, "ll1,0;w01;y0;y;", 4);
    }).brokenBy("return statements.length;", "return Math.min(39, statements.length);");

    bound("the FAULT (nothing is counted).", "of either kind", () -> {
      UpWhenDies x = new UpWhenDies();
      due("house()", x.house(), -1000);
      dueHouse(x, "ll1,0;y", -1007);
      dueHouse(x, "w00;", -2000);
      dueHouse(x, "y8;", -2000);
      dueHouse(x, "ll1,0;ll1,0;", -2006);
      dueRefusals(x, 0, 0, 0, 0, 0, 0);
    }).brokenBy("return -1000 - misfit;", "return -1000 - misfit - 0 * no(-6);")
        .brokenBy("return -2000 - place;", "return -2000 - place - 0 * no(-1);");
  }

  private void enter() {
    under("Promise 4: enter");
    bound("-2;", "below and above the KINDS, and it goes before -4", () -> {
      UpWhenDies x = new UpWhenDies();
      for (int kind : new int[] {-1, 6, LEAST, GREATEST}) {
        due("enter(" + kind + ", 0, 0)", x.enter(kind, 0, 0), -2);
        due("enter(" + kind + ", -1, -1)", x.enter(kind, -1, -1), -2);
        due("enter(" + kind + ", 100, 10)", x.enter(kind, 100, 10), -2);
      }
      dueRefusals(x, 0, 12, 0, 0, 0, 0);
    }).brokenBy("if (kind < 0 || kind > 5) return no(-2);", "if (kind < -1 || kind > 5) return no(-2);")
        .brokenBy("if (kind < 0 || kind > 5) return no(-2);", "if (kind < 0 || kind > 6) return no(-2);")
        .brokenBy("    if (kind < 0 || kind > 5) return no(-2);\n    if (age < 0 || load < 0) return no(-4);",
            "    if (age < 0 || load < 0) return no(-4);\n    if (kind < 0 || kind > 5) return no(-2);");

    bound("his number. -2;", "the first KIND and the last", () -> {
      UpWhenDies x = new UpWhenDies();
      due("enter(0, 30, 0)", x.enter(0, 30, 0), 0);
      due("enter(5, 30, 0)", x.enter(5, 30, 0), 1);
      dueFloors(x, 3, 2);
    }).brokenBy("if (kind < 0 || kind > 5) return no(-2);", "if (kind < 0 || kind > 4) return no(-2);")
        .brokenBy("if (kind < 0 || kind > 5) return no(-2);", "if (kind < 1 || kind > 5) return no(-2);");

    bound("-4 (either);", "AGE, LOAD, and it goes before -6", () -> {
      UpWhenDies x = new UpWhenDies();
      due("enter(0, -1, 0)", x.enter(0, -1, 0), -4);
      due("enter(0, 0, -1)", x.enter(0, 0, -1), -4);
      due("enter(0, -1, 10)", x.enter(0, -1, 10), -4);
      due("enter(0, 100, -1)", x.enter(0, 100, -1), -4);
      due("enter(0, least, 0)", x.enter(0, LEAST, 0), -4);
      due("enter(0, 0, least)", x.enter(0, 0, LEAST), -4);
      dueRefusals(x, 0, 0, 0, 6, 0, 0);
    }).brokenBy("if (age < 0 || load < 0) return no(-4);", "if (age < 0) return no(-4);")
        .brokenBy("if (age < 0 || load < 0) return no(-4);", "if (load < 0) return no(-4);")
        .brokenBy("if (age < 0 || load < 0) return no(-4);", "if (age < 0 && age > -100 || load < 0) return no(-4);");
  }

  private void enterWithoutRoom() {
    bound("-6 (99; 9; 8 LODGERS);", "AGE above 99", () -> {
      UpWhenDies x = new UpWhenDies();
      due("enter(0, 100, 0)", x.enter(0, 100, 0), -6);
      due("enter(3, 100, 0)", x.enter(3, 100, 0), -6);
      due("enter(0, greatest, 0)", x.enter(0, GREATEST, 0), -6);
      due("enter(0, 99, 0)", x.enter(0, 99, 0), 0);
      dueRefusals(x, 0, 0, 0, 0, 0, 3);
    }).brokenBy("if (age > 99 ||", "if (age > 100 ||").brokenBy("if (age > 99 ||", "if (age > 98 ||");

    bound("-6 (99; 9; 8 LODGERS);", "LOAD above 9", () -> {
      UpWhenDies x = new UpWhenDies();
      due("enter(0, 0, 10)", x.enter(0, 0, 10), -6);
      due("enter(0, 0, greatest)", x.enter(0, 0, GREATEST), -6);
      due("enter(0, 0, 9)", x.enter(0, 0, 9), 0);
      dueRefusals(x, 0, 0, 0, 0, 0, 2);
    }).brokenBy("|| load > 9 ||", "|| load > 10 ||").brokenBy("|| load > 9 ||", "|| load > 8 ||");

    bound("-6 (99; 9; 8 LODGERS);", "a ninth, alive or not, and it goes before -3", () -> {
      UpWhenDies x = new UpWhenDies();
      for (int i = 0; i < 8; i++) due("enter", x.enter(0, 10 * i, 0), i);
      due("a ninth", x.enter(0, 90, 0), -6);
      due("where somebody lives", x.enter(0, 70, 0), -6);
      due("all die", x.year(255), 0);
      due("a ninth", x.enter(0, 90, 0), -6);
      dueRefusals(x, 0, 0, 0, 0, 0, 3);
    }).brokenBy("people.size() == 8) return no(-6);", "people.size() == 9) return no(-6);")
        .brokenBy("people.size() == 8) return no(-6);", "count(0) == 8) return no(-6);")
        .brokenBy("people.size() == 8) return no(-6);",
            "people.size() == 8 && at(people, entry(kind, age)) == null) return no(-6);");

    bound("-3 somebody lives there.", "there, not beside it", () -> {
      UpWhenDies x = with("ll59,0;");
      due("enter(0, 50, 0)", x.enter(0, 50, 0), -3);
      due("enter(5, 69, 9)", x.enter(5, 69, 9), -3);
      due("enter(0, 60, 0)", x.enter(0, 60, 0), 1);
      due("enter(0, 49, 0)", x.enter(0, 49, 0), 2);
      dueRefusals(x, 0, 0, 2, 0, 0, 0);
    }).brokenBy("if (at(people, entry(kind, age)) != null) return no(-3);", "")
        .brokenBy("if (at(people, entry(kind, age)) != null) return no(-3);",
            "if (at(people, entry(kind, age) - 1) != null) return no(-3);");
  }

  private void lodger() {
    under("Promise 5: lodger");
    bound("6 WISH (-9 none).", "none, one, none again", () -> {
      UpWhenDies x = with("ll10,0;");
      due("lodger(0, 6)", x.lodger(0, 6), -9);
      due("wish(0, 0)", x.wish(0, 0), -9);
      due("lodger(0, 6)", x.lodger(0, 6), 0);
      due("wish(0, -1)", x.wish(0, -1), 0);
      due("lodger(0, 6)", x.lodger(0, 6), -9);
    }).brokenBy("wish = floor == -1 ? -9 : floor;", "wish = floor;");

    bound("-1;", "none such, a dead one, and it goes before -2", () -> {
      UpWhenDies x = oneAlive();
      for (int i : NO_LODGERS) due("lodger(" + i + ", 0)", x.lodger(i, 0), -1);
      due("lodger(1, 0)", x.lodger(1, 0), -1);
      due("lodger(1, 7)", x.lodger(1, 7), -1);
      due("lodger(-1, -1)", x.lodger(-1, -1), -1);
      dueRefusals(x, NO_LODGERS.length + 3, 0, 0, 0, 0, 0);
    }).brokenBy("lodger >= people.size() || !people", "lodger >= people.size() || people.size() > 9 && !people")
        .brokenBy("  public int lodger(int lodger, int what) {\n",
            "  public int lodger(int lodger, int what) {\n    if (what < 0 || what > 6) return no(-2);\n");

    bound("-1; -2.", "below and above what there is", () -> {
      UpWhenDies x = oneAlive();
      for (int what : new int[] {-1, 7, LEAST, GREATEST}) due("lodger(0, " + what + ")", x.lodger(0, what), -2);
      for (int what = 0; what <= 6; what++) due("answered", x.lodger(0, what) == -2 ? 1 : 0, 0);
      dueRefusals(x, 0, 4, 0, 0, 0, 0);
    }).brokenBy("if (what < 0 || what > 6) return no(-2);", "if (what < 0 || what > 6) return no(-1);")
        .brokenBy("if (what < 0 || what > 6) return no(-2);", "if (what < 0 || what > 5) return no(-2);")
        .brokenBy("if (what < 0 || what > 6) return no(-2);", "if (what < 1 || what > 6) return no(-2);");
  }

  private void wish() {
    under("Promise 6: wish");
    bound("(-1: none)", "it takes a WISH away", () -> {
      UpWhenDies x = with("ll10,0;w01;");
      due("rings()", x.rings(), 1);
      due("wish(0, -1)", x.wish(0, -1), 1);
      due("rings()", x.rings(), 0);
      due("wish(0, -1)", x.wish(0, -1), -9);
    }).brokenBy("wish = floor == -1 ? -9 : floor;", "wish = floor == -1 ? was : floor;")
        .brokenBy("floor < -1 || floor > 9) return no(-1);", "floor < 0 || floor > 9) return no(-1);");

    bound("what it was (-9 none)", "none, the lowest FLOOR, the highest", () -> {
      UpWhenDies x = with("ll10,0;");
      due("wish(0, 0)", x.wish(0, 0), -9);
      due("wish(0, 9)", x.wish(0, 9), 0);
      due("wish(0, 9)", x.wish(0, 9), 9);
      due("wish(0, -1)", x.wish(0, -1), 9);
      due("wish(0, 5)", x.wish(0, 5), -9);
    }).brokenBy("    return was;\n", "    return people.get(lodger).wish;\n")
        .brokenBy("floor < -1 || floor > 9) return no(-1);", "floor < -1 || floor > 8) return no(-1);");

    bound("-1 either.", "no such LODGER alive", () -> {
      UpWhenDies x = oneAlive();
      for (int i : NO_LODGERS) due("wish(" + i + ", 0)", x.wish(i, 0), -1);
      due("wish(1, 0)", x.wish(1, 0), -1);
      due("wish(1, -1)", x.wish(1, -1), -1);
      dueRefusals(x, NO_LODGERS.length + 2, 0, 0, 0, 0, 0);
    }).brokenBy("if (dead(lodger) || floor < -1", "if (lodger < 0 || lodger >= people.size() || floor < -1");

    bound("-1 either.", "no such FLOOR", () -> {
      UpWhenDies x = with("ll10,0;w04;");
      for (int floor : new int[] {-2, -9, 10, LEAST, GREATEST}) due("wish(0, " + floor + ")", x.wish(0, floor), -1);
      due("lodger(0, 6)", x.lodger(0, 6), 4);
      dueRefusals(x, 5, 0, 0, 0, 0, 0);
    }).brokenBy("floor < -1 || floor > 9) return no(-1);", "floor < -2 || floor > 9) return no(-1);")
        .brokenBy("floor < -1 || floor > 9) return no(-1);", "floor < -1 || floor > 10) return no(-1);");
  }

  private void year() {
    under("Promise 7: year");
    bound("how many moved up.", "none, all but one, not the dead", () -> {
      UpWhenDies x = with("ll0,0;ll10,0;ll20,0;ll30,0;ll40,0;ll50,0;ll60,0;ll70,0;");
      due("year(0)", x.year(0), 0);
      due("year(1)", x.year(1), 0);
      due("year(128)", x.year(128), 6);
      due("year(64 + 32)", x.year(96), 4);
      due("year(30)", x.year(30), 0);
      due("year(0)", x.year(0), 0);
    }).brokenBy("if (up > 0) moved++;", "if (up >= 0) moved++;")
        .brokenBy("if (up > 0) moved++;", "moved += Math.max(0, up);");

    bound("-1 one that is not alive;", "one that has died, one that never came", () -> {
      UpWhenDies x = oneAlive();
      due("year(2)", x.year(2), -1);
      due("year(3)", x.year(3), -1);
      due("year(4)", x.year(4), -1);
      due("year(128)", x.year(128), -1);
      due("count(0)", x.count(0), 1);
      due("count(2)", x.count(2), 1);
      dueRefusals(x, 4, 0, 0, 0, 0, 0);
    }).brokenBy("    if (someDead(deaths)) return no(-1);\n    if (year == 99)", "    if (year == 99)")
        .brokenBy("if ((set >>> i & 1) == 1 && dead(i)) return true;",
            "if ((set >>> i & 1) == 1 && i >= people.size()) return true;");

    bound("(deaths as bits)", "bits beyond all LODGERS", () -> {
      UpWhenDies x = with("ll10,0;");
      int[] sets = {256, 257, 1 << 16, (1 << 30) + 1, LEAST, LEAST + 1, GREATEST, -1};
      for (int set : sets) due("year(" + set + ")", x.year(set), -1);
      due("count(0)", x.count(0), 1);
      due("count(2)", x.count(2), 0);
      dueRefusals(x, sets.length, 0, 0, 0, 0, 0);
    }).brokenBy("for (int i = 0; i < 32; i++) if", "for (int i = 0; i < 8; i++) if")
        .brokenBy("for (int i = 0; i < 32; i++) if", "for (int i = 0; i < 31; i++) if");

    bound("-6 YEAR is 99.", "98, 99, and -1 goes before it", () -> {
      UpWhenDies x = oneAlive();
      passYears(x, 98);
      due("count(2)", x.count(2), 99);
      due("year(0)", x.year(0), -6);
      due("year(1)", x.year(1), -6);
      due("year(2)", x.year(2), -1);
      due("count(0)", x.count(0), 1);
      due("count(2)", x.count(2), 99);
      dueRefusals(x, 1, 0, 0, 0, 0, 2);
    }).brokenBy("if (year == 99) return no(-6);", "if (year == 98) return no(-6);")
        .brokenBy("if (year == 99) return no(-6);", "if (year == 100) return no(-6);")
        .brokenBy("    if (someDead(deaths)) return no(-1);\n    if (year == 99) return no(-6);",
            "    if (year == 99) return no(-6);\n    if (someDead(deaths)) return no(-1);");
  }

  private void on() {
    under("Promise 8: on");
    bound("-9.", "nobody, nobody any more", () -> {
      UpWhenDies x = with("ll0,0;ll90,0;");
      due("on(0)", x.on(0), 0);
      due("on(1)", x.on(1), -9);
      due("on(9)", x.on(9), 1);
      due("year(2)", x.year(2), 1);
      due("on(0)", x.on(0), -9);
      due("on(1)", x.on(1), 0);
      due("on(9)", x.on(9), -9);
      dueRefusals(x, 0, 0, 0, 0, 0, 0);
    }).brokenBy("return p == null ? -9 : people.indexOf(p);", "return p == null ? -1 : people.indexOf(p);");

    bound("-9. -1.", "no such FLOOR", () -> {
      UpWhenDies x = oneAlive();
      for (int floor : NO_FLOORS) due("on(" + floor + ")", x.on(floor), -1);
      dueRefusals(x, NO_FLOORS.length, 0, 0, 0, 0, 0);
    }).brokenBy("    if (floor < 0 || floor > 9) return no(-1);\n    Person p = at", "    Person p = at")
        .brokenBy("    if (floor < 0 || floor > 9) return no(-1);\n    Person p = at",
            "    if (floor < 0 || floor > 10) return no(-1);\n    Person p = at");
  }

  private void likely() {
    under("Promise 9: likely");
    bound("part 0 above, 1 below the line", "either", () -> {
      UpWhenDies x = with("ll30,0;");
      due("likely(0, 3, 1, 0)", x.likely(0, 3, 1, 0), 7);
      due("likely(0, 3, 1, 1)", x.likely(0, 3, 1, 1), 10);
    }).brokenBy("(part == 0 ? above : below)", "(part == 1 ? above : below)");

    bound("-1 either;", "no such LODGER alive, no such FLOOR", () -> {
      UpWhenDies x = oneAlive();
      for (int i : NO_LODGERS) due("likely(" + i + ", 0, 1, 0)", x.likely(i, 0, 1, 0), LONG_REFUSAL + 1);
      for (int floor : NO_FLOORS) due("likely(0, " + floor + ", 1, 0)", x.likely(0, floor, 1, 0), LONG_REFUSAL + 1);
      due("likely(1, 0, 0, 2)", x.likely(1, 0, 0, 2), LONG_REFUSAL + 1);
      due("likely(0, 10, 3, 2)", x.likely(0, 10, 3, 2), LONG_REFUSAL + 1);
      dueRefusals(x, NO_LODGERS.length + NO_FLOORS.length + 2, 0, 0, 0, 0, 0);
    }).brokenBy("if (dead(lodger) || floor < 0 || floor > 9) refusal = -1;",
        "if (dead(lodger) || floor < 0 || floor > 10) refusal = -1;")
        .brokenBy("if (dead(lodger) || floor < 0 || floor > 9) refusal = -1;",
            "if (dead(lodger) || floor < -1 || floor > 9) refusal = -1;");

    bound("-1 either; -4;", "n below 1, and it goes before -2", () -> {
      UpWhenDies x = oneAlive();
      due("likely(0, 0, 0, 0)", x.likely(0, 0, 0, 0), LONG_REFUSAL + 4);
      due("likely(0, 0, -1, 2)", x.likely(0, 0, -1, 2), LONG_REFUSAL + 4);
      due("likely(0, 0, least, 0)", x.likely(0, 0, LEAST, 0), LONG_REFUSAL + 4);
      dueRefusals(x, 0, 0, 0, 3, 0, 0);
    }).brokenBy("else if (n < 1) refusal = -4;", "else if (n < 0) refusal = -4;");

    bound("-6 2;", "n above 2, and it goes before -2", () -> {
      UpWhenDies x = oneAlive();
      due("likely(0, 0, 3, 0)", x.likely(0, 0, 3, 0), LONG_REFUSAL + 6);
      due("likely(0, 0, 3, 2)", x.likely(0, 0, 3, 2), LONG_REFUSAL + 6);
      due("likely(0, 0, greatest, 0)", x.likely(0, 0, GREATEST, 0), LONG_REFUSAL + 6);
      due("likely(0, 0, 2, 1)", x.likely(0, 0, 2, 1), 100);
      dueRefusals(x, 0, 0, 0, 0, 0, 3);
    }).brokenBy("else if (n > 2) refusal = -6;", "else if (n > 1) refusal = -6;")
        .brokenBy("else if (n > 2) refusal = -6;\n    else if (part < 0 || part > 1) refusal = -2;",
            "else if (part < 0 || part > 1) refusal = -2;\n    else if (n > 2) refusal = -6;");

    bound("-6 2; -2.", "no such part", () -> {
      UpWhenDies x = oneAlive();
      for (int part : new int[] {-1, 2, LEAST, GREATEST}) {
        due("likely(0, 0, 1, " + part + ")", x.likely(0, 0, 1, part), LONG_REFUSAL + 2);
      }
      dueRefusals(x, 0, 4, 0, 0, 0, 0);
    }).brokenBy("else if (part < 0 || part > 1) refusal = -2;", "else if (part < 0 || part > 2) refusal = -2;")
        .brokenBy("else if (part < 0 || part > 1) refusal = -2;", "else if (part < -1 || part > 1) refusal = -2;");
  }

  private void mean() {
    under("Promise 10: mean");
    bound("MEAN.", "nobody, the dead, all eight", () -> {
      UpWhenDies x = new UpWhenDies();
      due("mean()", x.mean(), 0);
      dueHouse(x, "li0,0;li10,0;li20,0;li30,0;li40,0;li50,0;li60,0;li70,0;", 8);
      due("mean()", x.mean(), 3 + 4 + 5 + 6 + 7 + 8 + 9 + 10);
      due("year(128)", x.year(128), 7);
      due("mean()", x.mean(), 3 + 4 + 5 + 6 + 7 + 8 + 9);
      due("year(127)", x.year(127), 0);
      due("mean()", x.mean(), 0);
    }).brokenBy("filter(Person::alive).mapToInt(Person::chance).sum();", "mapToInt(Person::chance).sum();")
        .brokenBy("mapToInt(Person::chance).sum();", "mapToInt(Person::chance).limit(7).sum();");
  }

  private void deaths() {
    under("Promise 11: deaths");
    bound("how many (what 0), the set (1); -9.", "either -9", () -> {
      UpWhenDies x = with("ll10,0;ll90,0;");
      dueDeaths(x, 0, 2, 1, 2);
      dueDeaths(x, 0, 3, -9, -9);
      dueDeaths(x, 0, 0, -9, -9);
      dueDeaths(x, 1, 9, -9, -9);
      dueRefusals(x, 0, 0, 0, 0, 0, 0);
    }).brokenBy("if (needed < 1 || needed > above.size()", "if (needed < 1 || what == 1 && needed > above.size()");

    bound("-1 either;", "no such LODGER alive, no such FLOOR", () -> {
      UpWhenDies x = oneAlive();
      for (int i : NO_LODGERS) due("deaths(" + i + ", 5, 0)", x.deaths(i, 5, 0), -1);
      for (int floor : NO_FLOORS) due("deaths(0, " + floor + ", 1)", x.deaths(0, floor, 1), -1);
      due("deaths(1, 5, 2)", x.deaths(1, 5, 2), -1);
      due("deaths(0, 10, 2)", x.deaths(0, 10, 2), -1);
      dueRefusals(x, NO_LODGERS.length + NO_FLOORS.length + 2, 0, 0, 0, 0, 0);
    }).brokenBy("if (dead(lodger) || floor < 0 || floor > 9) return no(-1);",
        "if (dead(lodger) || floor < 0 || floor > 10) return no(-1);")
        .brokenBy("if (dead(lodger) || floor < 0 || floor > 9) return no(-1);",
            "if (dead(lodger) || floor < -1 || floor > 9) return no(-1);");

    bound("-1 either; -2.", "no such what, even if it is -9", () -> {
      UpWhenDies x = oneAlive();
      for (int what : new int[] {-1, 2, LEAST, GREATEST}) {
        due("deaths(0, 5, " + what + ")", x.deaths(0, 5, what), -2);
        due("deaths(0, 0, " + what + ")", x.deaths(0, 0, what), -2);
      }
      dueRefusals(x, 0, 8, 0, 0, 0, 0);
    }).brokenBy("    if (what < 0 || what > 1) return no(-2);\n    Person p", "    Person p")
        .brokenBy("    if (what < 0 || what > 1) return no(-2);\n    Person p",
            "    if (what < -1 || what > 1) return no(-2);\n    Person p");
  }

  private void stuck() {
    under("Promise 12: stuck");
    bound("STUCK (bits).", "nobody, the eighth, the dead", () -> {
      UpWhenDies x = new UpWhenDies();
      due("stuck()", x.stuck(), 0);
      dueHouse(x, "ll0,0;ll10,0;ll20,0;ll30,0;ll40,0;ll50,0;ll80,0;ll90,0;", 8);
      due("stuck()", x.stuck(), 64 + 128);
      due("year(64)", x.year(64), 6);
      due("stuck()", x.stuck(), 32 + 128);
      due("year(191)", x.year(191), 0);
      due("stuck()", x.stuck(), 0);
    }).brokenBy("if (p.alive() && p.floor > p.climbs()) set |= 1 << people.indexOf(p);",
        "if (p.floor > p.climbs() && people.indexOf(p) < 7) set |= 1 << people.indexOf(p);");
  }

  private void safe() {
    under("Promise 13: safe");
    bound("SAFE; -9.", "STUCK or not", () -> {
      UpWhenDies x = with("ll59,0;ll60,0;lc60,0;");
      int[] years = {0, -9, 99};
      for (int i = 0; i < 3; i++) due("safe(" + i + ")", x.safe(i), years[i]);
      dueRefusals(x, 0, 0, 0, 0, 0, 0);
    }).brokenBy("return years == 0 ? -9 : years - 1;", "return years - 1;");

    bound("-9. -1.", "no such LODGER alive", () -> {
      UpWhenDies x = oneAlive();
      for (int i : NO_LODGERS) due("safe(" + i + ")", x.safe(i), -1);
      due("safe(1)", x.safe(1), -1);
      dueRefusals(x, NO_LODGERS.length + 1, 0, 0, 0, 0, 0);
    }).brokenBy("lodger >= people.size() || !people.get(lodger).alive()", "lodger >= people.size()");
  }

  private void carried() {
    under("Promise 14: carried");
    bound("CARRIED. -1.", "one not alive, bits beyond all LODGERS", () -> {
      UpWhenDies x = oneAlive();
      int[] sets = {2, 3, 4, 128, 256, 257, 1 << 30, LEAST, LEAST + 1, GREATEST, -1};
      for (int set : sets) due("carried(" + set + ")", x.carried(set), -1);
      due("carried(0)", x.carried(0), 0);
      due("carried(1)", x.carried(1), 0);
      dueRefusals(x, sets.length, 0, 0, 0, 0, 0);
    }).brokenBy("    if (someDead(deaths)) return no(-1);\n    int[] up", "    int[] up")
        .brokenBy("for (int i = 0; i < 32; i++) if", "for (int i = 0; i < 31; i++) if");

    bound("CARRIED. -1.", "even if YEAR is 99; nothing moves", () -> {
      UpWhenDies x = with("ll10,4;ll90,9;");
      passYears(x, 99);
      due("carried(2)", x.carried(2), 4);
      due("carried(2)", x.carried(2), 4);
      dueFloors(x, 1, 9);
      dueRefusals(x, 0, 0, 0, 0, 0, 0);
    }).brokenBy("int[] up = pass(copies(people), deaths);", "int[] up = pass(people, deaths);")
        .brokenBy("    if (someDead(deaths)) return no(-1);\n    int[] up",
            "    if (someDead(deaths)) return no(-1);\n    if (year == 99) return no(-6);\n    int[] up");
  }

  private void leastCarried() {
    under("Promise 15: leastCarried");
    bound("-9 nobody lives.", "nobody yet, one, nobody any more", () -> {
      UpWhenDies x = new UpWhenDies();
      due("leastCarried()", x.leastCarried(), -9);
      due("enter", x.enter(0, 50, 9), 0);
      due("leastCarried()", x.leastCarried(), 0);
      due("year(1)", x.year(1), 0);
      due("leastCarried()", x.leastCarried(), -9);
      dueRefusals(x, 0, 0, 0, 0, 0, 0);
    }).brokenBy("int best = -9;", "int best = -1;");
  }

  private void rings() {
    under("Promise 16: rings");
    bound("RINGS (bits).", "nobody, none, the eighth", () -> {
      UpWhenDies x = new UpWhenDies();
      due("rings()", x.rings(), 0);
      dueHouse(x, "ll0,0;ll10,0;ll20,0;ll30,0;ll40,0;ll50,0;ll60,0;ll70,0;", 8);
      due("rings()", x.rings(), 0);
      due("wish", x.wish(7, 7), -9);
      due("rings()", x.rings(), 128);
      due("year(128)", x.year(128), 7);
      due("rings()", x.rings(), 0);
    }).brokenBy("if (q == p) set |= ring;", "if (q == p) set |= ring & 127;");
  }

  private void changing() {
    under("Promise 17: changing");
    bound("how many moved to another FLOOR.", "nobody, one alone, two", () -> {
      UpWhenDies x = new UpWhenDies();
      due("changing()", x.changing(), 0);
      dueHouse(x, "ll10,0;ll20,0;ll30,0;w01;w13;w22;", 6);
      due("changing()", x.changing(), 2);
      dueFloors(x, 1, 3, 2);
      due("lodger(0, 6)", x.lodger(0, 6), -9);
      due("changing()", x.changing(), 0);
    }).brokenBy("if (p.wish != p.floor) moved++;", "moved++;");
  }

  private void free() {
    under("Promise 18: free");
    bound("FREE (bits).", "all ten, the lowest and the highest not", () -> {
      UpWhenDies x = new UpWhenDies();
      due("free()", x.free(), 1023);
      dueHouse(x, "ll0,0;ll90,0;", 2);
      due("free()", x.free(), 1022 - 512);
      due("year(3)", x.year(3), 0);
      due("free()", x.free(), 1023);
    }).brokenBy("for (int f = 0; f < 10; f++)", "for (int f = 0; f < 9; f++)")
        .brokenBy("if (p.alive() && p.floor == floor) return p;",
            "if (p.alive() && p.floor == floor && floor > 0) return p;");
  }

  private void ages() {
    under("Promise 19: ages");
    bound("how many (what 0), the least (1; -9).", "none for the last KIND but all", () -> {
      UpWhenDies x = with("lc0,0;");
      due("ages(3, 0)", x.ages(3, 0), 0);
      due("ages(3, 1)", x.ages(3, 1), -9);
      due("ages(0, 0)", x.ages(0, 0), 90);
      due("ages(0, 1)", x.ages(0, 1), 10);
      due("ages(5, 0)", x.ages(5, 0), 80);
      due("ages(5, 1)", x.ages(5, 1), 20);
      dueRefusals(x, 0, 0, 0, 0, 0, 0);
    }).brokenBy("    int least = -9;\n    for (int age", "    int least = -1;\n    for (int age")
        .brokenBy("if (kind < 0 || kind > 5 || what", "if (kind < 0 || kind > 4 || what")
        .brokenBy("if (kind < 0 || kind > 5 || what", "if (kind < 1 || kind > 5 || what");

    bound("-2 either.", "no such KIND, no such what", () -> {
      UpWhenDies x = new UpWhenDies();
      for (int kind : new int[] {-1, 6, LEAST, GREATEST}) due("ages(" + kind + ", 0)", x.ages(kind, 0), -2);
      for (int what : new int[] {-1, 2, LEAST, GREATEST}) due("ages(0, " + what + ")", x.ages(0, what), -2);
      due("ages(6, 2)", x.ages(6, 2), -2);
      dueRefusals(x, 0, 9, 0, 0, 0, 0);
    }).brokenBy("if (kind < 0 || kind > 5 || what < 0", "if (kind < 0 || kind > 6 || what < 0")
        .brokenBy("if (kind < 0 || kind > 5 || what < 0", "if (kind < -1 || kind > 5 || what < 0")
        .brokenBy("kind > 5 || what < 0 || what > 1)", "kind > 5 || what < 0 || what > 2)")
        .brokenBy("kind > 5 || what < 0 || what > 1)", "kind > 5 || what < -1 || what > 1)");
  }

  private void row() {
    under("Promise 20: row");
    bound("(0 .. 10): how many.", "the least, the greatest, the eighth", () -> {
      UpWhenDies x = new UpWhenDies();
      tellRow(x, 0, 10, 0, 10, 0, 10, 0, 10);
      due("count(5)", x.count(5), 8);
    }).brokenBy("if (v > 10 ||", "if (v > 9 ||").brokenBy("if (v < 0) return no(-4);", "if (v < 1) return no(-4);")
        .brokenBy("row.size() == 8) return no(-6);", "row.size() == 7) return no(-6);");

    bound("how many. -4;", "below 0", () -> {
      UpWhenDies x = new UpWhenDies();
      due("row(-1)", x.row(-1), -4);
      due("row(least)", x.row(LEAST), -4);
      due("count(5)", x.count(5), 0);
      dueRefusals(x, 0, 0, 0, 2, 0, 0);
    }).brokenBy("if (v < 0) return no(-4);", "if (v < -1) return no(-4);");

    bound("-6 (10; 8, too).", "above 10", () -> {
      UpWhenDies x = new UpWhenDies();
      due("row(11)", x.row(11), -6);
      due("row(greatest)", x.row(GREATEST), -6);
      due("count(5)", x.count(5), 0);
      dueRefusals(x, 0, 0, 0, 0, 0, 2);
    }).brokenBy("if (v > 10 ||", "if (v > 11 ||");

    bound("-6 (10; 8, too).", "a ninth, and -4 goes before it", () -> {
      UpWhenDies x = new UpWhenDies();
      tellRow(x, 1, 2, 3, 4, 5, 6, 7, 8);
      due("row(9)", x.row(9), -6);
      due("row(11)", x.row(11), -6);
      due("row(-1)", x.row(-1), -4);
      due("count(5)", x.count(5), 8);
      dueRefusals(x, 0, 0, 0, 1, 0, 2);
    }).brokenBy("row.size() == 8) return no(-6);", "row.size() == 9) return no(-6);")
        .brokenBy("if (v < 0) return no(-4);", "if (v < 0 && row.size() < 8) return no(-4);");
  }

  private void fitting() {
    under("Promise 21: fitting");
    bound("how many (what 0), the least (1; -9)", "nobody and no number", () -> {
      UpWhenDies x = new UpWhenDies();
      dueFitting(x, 1, 0);
      dueHouse(x, "ll10,0;y0;", 2);
      dueFitting(x, 1, 0);
    }).brokenBy("if (row.size() != count(0)) return no(-3);", "if (row.size() != people.size()) return no(-3);")
        .brokenBy("int least = -9;\n    for (int deaths = 255; deaths >= 0; deaths--)",
            "int least = -9;\n    for (int deaths = 255; deaths > 0; deaths--)");

    bound("(the ROW stays).", "whether it fits or not, and if refused", () -> {
      UpWhenDies x = with("ll10,0;ll20,0;");
      tellRow(x, 1);
      due("fitting(0)", x.fitting(0), -3);
      due("row(2)", x.row(2), 2);
      dueFitting(x, 1, 0);
      dueFitting(x, 1, 0);
      due("fitting(2)", x.fitting(2), -2);
      due("count(5)", x.count(5), 2);
      due("row(3)", x.row(3), 3);
      due("fitting(0)", x.fitting(0), -3);
      due("count(5)", x.count(5), 3);
    }).brokenBy("    return what == 0 ? many : least;\n  }\n\n  public int judge",
        "    row.clear();\n    return what == 0 ? many : least;\n  }\n\n  public int judge");

    bound("-2;", "no such what, and it goes before -3", () -> {
      UpWhenDies x = with("ll10,0;");
      for (int what : new int[] {-1, 2, LEAST, GREATEST}) due("fitting(" + what + ")", x.fitting(what), -2);
      tellRow(x, 1);
      for (int what : new int[] {-1, 2, LEAST, GREATEST}) due("fitting(" + what + ")", x.fitting(what), -2);
      dueRefusals(x, 0, 8, 0, 0, 0, 0);
    }).brokenBy("    if (what < 0 || what > 1) return no(-2);\n    if (row.size() != count(0)) return no(-3);",
        "    if (row.size() != count(0)) return no(-3);\n    if (what < 0 || what > 1) return no(-2);")
        .brokenBy("    if (what < 0 || what > 1) return no(-2);\n    if (row.size()",
            "    if (what < 0 || what > 2) return no(-2);\n    if (row.size()");

    bound("-3 the ROW is not as long as LODGERS live.", "one too few, one too many, empty", () -> {
      UpWhenDies x = with("ll10,0;ll20,0;ll30,0;y2;");
      due("empty", x.fitting(0), -3);
      tellRow(x, 10);
      due("one too few", x.fitting(0), -3);
      due("row(10)", x.row(10), 2);
      due("as long", x.fitting(0), 4);
      due("row(10)", x.row(10), 3);
      due("one too many, as many as ever came", x.fitting(1), -3);
      dueRefusals(x, 0, 0, 3, 0, 0, 0);
    }).brokenBy("if (row.size() != count(0)) return no(-3);", "if (row.size() < count(0)) return no(-3);")
        .brokenBy("if (row.size() != count(0)) return no(-3);", "if (row.size() > count(0)) return no(-3);");
  }

  private void judge() {
    under("Promise 22: judge");
    bound("-9 (whichever it answers, the ROW has none then).", "so, not so, too short, too long", () -> {
      UpWhenDies x = with("ll10,0;ll20,0;");
      int[][] rows = {{1, 2}, {1, 3}, {1}, {1, 2, 3}, {}};
      int[] want = {-9, 1, 1, 2, 0};
      for (int i = 0; i < rows.length; i++) {
        tellRow(x, rows[i]);
        due("judge()", x.judge(), want[i]);
        due("count(5)", x.count(5), 0);
      }
      dueRefusals(x, 0, 0, 0, 0, 0, 0);
    }).brokenBy("    row.clear();\n    for (int i", "    if (told.equals(so)) row.clear();\n    for (int i")
        .brokenBy("    row.clear();\n    for (int i", "    if (!told.equals(so)) row.clear();\n    for (int i");
  }

  private void lots() {
    under("Promise 23: lots");
    bound("-4;", "n below 1", () -> {
      UpWhenDies x = oneAlive();
      for (int n : new int[] {0, -1, LEAST}) due("lots(" + n + ", 0)", x.lots(n, 0), -4);
      due("lots(1, 0)", x.lots(1, 0), 1);
      dueRefusals(x, 0, 0, 0, 3, 0, 0);
    }).brokenBy("if (n < 1) return no(-4);", "if (n < 0) return no(-4);")
        .brokenBy("if (n < 1) return no(-4);", "if (n < 2) return no(-4);");

    bound("-6 40.", "n above 40", () -> {
      UpWhenDies x = with("ly0,0;");
      for (int n : new int[] {41, 100, GREATEST}) due("lots(" + n + ", 0)", x.lots(n, 0), -6);
      due("lots(40, 0)", x.lots(40, 0), 1);
      dueRefusals(x, 0, 0, 0, 0, 0, 3);
    }).brokenBy("if (n > 40) return no(-6);", "if (n > 41) return no(-6);")
        .brokenBy("if (n > 40) return no(-6);", "if (n > 39) return no(-6);");

    bound("LOTS (bits).", "nobody, all eight", () -> {
      due("lots(40, 9)", new UpWhenDies().lots(40, 9), 0);
      // The first eight draws with the seed 0: 3, 7, 6, 9, 9, 0, 4, 7; CHANCES 4, 7, 6, 9, 10, 1, 5, 0.
      UpWhenDies x = with("ll40,0;ll70,0;ll60,0;ll90,0;li80,0;ll10,0;ll50,0;ly0,0;");
      due("lots(1, 0)", x.lots(1, 0), 2 + 4 + 8 + 128);
    }).brokenBy("return living(then);", "return living(then) & 127;");
  }

  private void imageAndBack() {
    under("Promise 24: image");
    bound("THE IMAGE is taken: YEAR.", "YEAR 0 and 99, a later one instead of an earlier one", () -> {
      UpWhenDies x = with("ll10,0;");
      due("image()", x.image(), 0);
      passYears(x, 99);
      due("image()", x.image(), 99);
      due("year(1)", x.year(1), -6);
      due("back()", x.back(), 99);
      due("count(2)", x.count(2), 99);
      due("lodger(0, 1)", x.lodger(0, 1), 99);
    }).brokenBy("    keptYear = year;\n", "    if (keptYear == 0 && year < 99) keptYear = year;\n");

    under("Promise 25: back");
    bound("-3 there is none.", "before the first, not behind it", () -> {
      UpWhenDies x = with("ll10,0;y;");
      due("back()", x.back(), -3);
      due("count(1)", x.count(1), 1);
      due("count(2)", x.count(2), 1);
      due("image()", x.image(), 1);
      due("back()", x.back(), 1);
      due("back()", x.back(), 1);
      dueRefusals(x, 0, 0, 1, 0, 0, 0);
    }).brokenBy("if (keptPeople == null) return no(-3);", "if (keptPeople == null) return year;")
        .brokenBy("    year = keptYear;\n", "    year = keptYear;\n    keptPeople = null;\n");

    bound("-3 there is none.", "an image of an empty house is one", () -> {
      UpWhenDies x = new UpWhenDies();
      due("image()", x.image(), 0);
      due("enter", x.enter(0, 10, 0), 0);
      due("back()", x.back(), 0);
      due("count(0)", x.count(0), 0);
      due("count(1)", x.count(1), 0);
    }).brokenBy("if (keptPeople == null) return no(-3);",
        "if (keptPeople == null || keptPeople.isEmpty()) return no(-3);");
  }

  private void count() {
    under("Promise 26: count");
    bound("0 LODGERS who live, 1 who ever came", "none, eight, the dead", () -> {
      UpWhenDies x = with("ll0,0;ll10,0;ll20,0;ll30,0;ll40,0;ll50,0;ll60,0;ll70,0;");
      due("count(0)", x.count(0), 8);
      due("count(1)", x.count(1), 8);
      due("year(255)", x.year(255), 0);
      due("count(0)", x.count(0), 0);
      due("count(1)", x.count(1), 8);
    }).brokenBy("if (what == 1) return people.size();", "if (what == 1) return count(0);")
        .brokenBy("if (what == 0) return Integer.bitCount(living(people));", "if (what == 0) return people.size();");

    bound("3 all LOADS (of living ones), 4 all AGES (of these)", "the most, without the dead", () -> {
      UpWhenDies x = with("ll29,9;ll39,9;ll49,9;ll59,9;ll69,9;ll79,9;ll89,9;ll99,9;");
      due("count(3)", x.count(3), 72);
      due("count(4)", x.count(4), 29 + 39 + 49 + 59 + 69 + 79 + 89 + 99);
      due("year(128)", x.year(128), 7);
      due("count(3)", x.count(3), 63);
      due("count(4)", x.count(4), 30 + 40 + 50 + 60 + 70 + 80 + 90);
      due("year(127)", x.year(127), 0);
      due("count(3)", x.count(3), 0);
      due("count(4)", x.count(4), 0);
    }).brokenBy("people.stream().filter(Person::alive).mapToInt(p -> p.load)", "people.stream().mapToInt(p -> p.load)")
        .brokenBy("people.stream().filter(Person::alive).mapToInt(p -> p.age)", "people.stream().mapToInt(p -> p.age)");

    bound("5 in the ROW, 6 letters", "none, as many as there can be, none again", () -> {
      UpWhenDies x = new UpWhenDies();
      tellRow(x, 1, 2, 3, 4, 5, 6, 7, 8);
      tell(x, "z".repeat(80));
      due("count(5)", x.count(5), 8);
      due("count(6)", x.count(6), 80);
      due("judge()", x.judge(), 0);
      due("house()", x.house(), -1000);
      due("count(5)", x.count(5), 0);
      due("count(6)", x.count(6), 0);
    }).brokenBy("if (what == 5) return row.size();", "if (what == 5) return Math.min(7, row.size());")
        .brokenBy("if (what == 6) return text.length();", "if (what == 6) return Math.min(79, text.length());");

    bound("11 .. 16 REFUSALS -1 .. -6.", "each, the first and the last", () -> {
      UpWhenDies x = new UpWhenDies();
      for (int i = 0; i < 1; i++) due("on(10)", x.on(10), -1);
      for (int i = 0; i < 2; i++) due("ages(6, 0)", x.ages(6, 0), -2);
      for (int i = 0; i < 3; i++) due("back()", x.back(), -3);
      for (int i = 0; i < 4; i++) due("row(-1)", x.row(-1), -4);
      for (int i = 0; i < 6; i++) due("row(11)", x.row(11), -6);
      dueRefusals(x, 1, 2, 3, 4, 0, 6);
    }).brokenBy("if (what >= 11 && what <= 16) return", "if (what >= 12 && what <= 16) return")
        .brokenBy("if (what >= 11 && what <= 16) return", "if (what >= 11 && what <= 15) return");

    bound("-9 for another what.", "below, between, above; none is a refusal", () -> {
      UpWhenDies x = oneAlive();
      int[] others = {-1, 7, 8, 9, 10, 17, 18, LEAST, GREATEST};
      for (int what : others) due("count(" + what + ")", x.count(what), -9);
      dueRefusals(x, 0, 0, 0, 0, 0, 0);
    }).brokenBy("    return -9;\n  }\n}", "    return no(-2) * 0 - 9;\n  }\n}")
        .brokenBy("if (what >= 11 && what <= 16) return", "if (what >= 10 && what <= 16) return")
        .brokenBy("    return -9;\n  }\n}", "    return what == 7 ? 0 : -9;\n  }\n}");
  }
}
