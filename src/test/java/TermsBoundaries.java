/** The boundary cases of LODGERS, KINDS and YEARS, as the document names them under "What it is" and "Terms". */
final class TermsBoundaries extends Boundaries {
  TermsBoundaries() {
    under("What it is");
    calls();
    under("Terms");
    lodgers();
    numbersOfOne();
    floorsOfOne();
    kindLodger();
    kindStrong();
    kindIll();
    kindCellar();
    kindDoctored();
    kindYoung();
    whoDies();
    whoMovesUp();
    agesAndYear();
  }

  private static void dueFloorsAt(char kind, int... agesAndFloors) {
    for (int i = 0; i < agesAndFloors.length; i += 2) {
      dueFloors(with("l" + kind + agesAndFloors[i] + ",0;"), agesAndFloors[i + 1]);
    }
  }

  private static void dueChancesAt(char kind, int... agesAndChances) {
    for (int i = 0; i < agesAndChances.length; i += 2) {
      String told = "l" + kind + agesAndChances[i] + ",0;";
      due("chance of " + told, with(told).lodger(0, 4), agesAndChances[i + 1]);
    }
  }

  private static void dueClimbsAt(char kind, int... agesAndFloors) {
    for (int i = 0; i < agesAndFloors.length; i += 2) {
      String told = "l" + kind + agesAndFloors[i] + ",0;";
      due("climb of " + told, with(told).lodger(0, 5), agesAndFloors[i + 1]);
    }
  }

  private void calls() {
    bound("at most 512 calls", "the 512th is answered as all others", () -> {
      UpWhenDies x = new UpWhenDies();
      for (int i = 0; i < 500; i++) due("on(10)", x.on(10), -1);
      for (int i = 0; i < 10; i++) due("row(11)", x.row(11), -6);
      due("count(16), the 511th call", x.count(16), 10);
      due("count(11), the 512th call", x.count(11), 500);
    }).brokenBy("refusals[10 - number]++;", "if (refusals[10 - number] < 499) refusals[10 - number]++;");

    bound("at most 512 calls", "letters that have gone take no room", () -> {
      UpWhenDies x = new UpWhenDies();
      for (int i = 0; i < 6; i++) dueHouse(x, "x".repeat(80), -1000);
      for (int i = 0; i < 22; i++) due("on(0)", x.on(0), -9);
      due("letter, the 509th call", x.letter('y'), 1);
      due("letter, the 510th call", x.letter(';'), 2);
      due("house(), the 511th call", x.house(), 1);
      due("count(2), the 512th call", x.count(2), 1);
    }).brokenBy("String told = text;\n    text = \"\";", "String told = text;\n    text = told.substring(0, 1);");
  }

  private void lodgers() {
    bound("FLOORS 0 .. 9.", "the lowest and the highest", () -> {
      UpWhenDies x = with("ll0,0;ll99,0;w09;w10;");
      dueFloors(x, 0, 9);
      due("free()", x.free(), 1023 - 1 - 512);
      due("changing()", x.changing(), 2);
      dueFloors(x, 9, 0);
    }).brokenBy("(age - 10) / 10;\n    return age / 10;", "(age - 10) / 10;\n    return Math.min(8, age / 10);")
        .brokenBy("(age - 10) / 10;\n    return age / 10;", "(age - 10) / 10;\n    return Math.max(1, age / 10);");

    bound("LODGERS 0 .. 7 as they come (8 at most ever)", "the first and the eighth", () -> {
      UpWhenDies x = new UpWhenDies();
      for (int i = 0; i < 8; i++) due("enter", x.enter(0, 10 * i, 0), i);
      due("a ninth", x.enter(0, 80, 0), -6);
      due("count(1)", x.count(1), 8);
    }).brokenBy("people.size() == 8) return no(-6);", "people.size() == 7) return no(-6);")
        .brokenBy("people.size() == 8) return no(-6);", "people.size() == 9) return no(-6);");

    bound("LODGERS 0 .. 7 as they come (8 at most ever)", "a dead one's number and room are not given again", () -> {
      UpWhenDies x = with("ll0,0;y0;");
      for (int i = 1; i < 8; i++) due("enter", x.enter(0, 10 * i, 0), i);
      due("all die", x.year(254), 0);
      due("a ninth", x.enter(0, 0, 0), -6);
      due("count(0)", x.count(0), 0);
      due("count(1)", x.count(1), 8);
    }).brokenBy("people.size() == 8) return no(-6);", "count(0) == 8) return no(-6);");
  }

  private void numbersOfOne() {
    bound("AGE (0 .. 99)", "the least and the greatest", () -> {
      UpWhenDies x = new UpWhenDies();
      due("enter(0, 0, 0)", x.enter(0, 0, 0), 0);
      due("enter(0, 99, 0)", x.enter(0, 99, 0), 1);
      due("lodger(0, 1)", x.lodger(0, 1), 0);
      due("lodger(1, 1)", x.lodger(1, 1), 99);
    }).brokenBy("if (age < 0 ||", "if (age < 1 ||").brokenBy("if (age > 99 ||", "if (age > 98 ||");

    bound("LOAD (0 .. 9:", "the least and the greatest", () -> {
      UpWhenDies x = new UpWhenDies();
      due("enter(0, 10, 0)", x.enter(0, 10, 0), 0);
      due("enter(0, 20, 9)", x.enter(0, 20, 9), 1);
      due("lodger(0, 3)", x.lodger(0, 3), 0);
      due("lodger(1, 3)", x.lodger(1, 3), 9);
    }).brokenBy("|| load < 0)", "|| load < 1)").brokenBy("|| load > 9 ||", "|| load > 8 ||");

    bound("WISH (a FLOOR; none at first)", "none at first", () -> {
      UpWhenDies x = with("ll10,0;");
      due("enter", x.enter(0, 20, 0), 1);
      due("lodger(0, 6)", x.lodger(0, 6), -9);
      due("lodger(1, 6)", x.lodger(1, 6), -9);
      due("wish(1, 3)", x.wish(1, 3), -9);
    }).brokenBy("int wish = -9;", "int wish = -1;");

    bound("WISH (a FLOOR; none at first)", "the lowest FLOOR is one, too", () -> {
      UpWhenDies x = with("ll10,0;");
      due("wish(0, 0)", x.wish(0, 0), -9);
      due("lodger(0, 6)", x.lodger(0, 6), 0);
      due("wish(0, 9)", x.wish(0, 9), 0);
      due("lodger(0, 6)", x.lodger(0, 6), 9);
    }).brokenBy("wish = floor == -1 ? -9 : floor;", "wish = floor < 1 ? -9 : floor;");
  }

  private void floorsOfOne() {
    bound("dead ones have no FLOOR", "theirs is free", () -> {
      UpWhenDies x = with("ll20,0;ll50,0;w12;w05;y0;");
      due("on(2)", x.on(2), -9);
      due("free()", x.free(), 1023 - 32);
      due("a wish for it makes no ring", x.rings(), 0);
      due("enter", x.enter(0, 20, 0), 2);
      due("on(2)", x.on(2), 2);
      due("lodger(0, 2)", x.lodger(0, 2), -1);
    }).brokenBy("    if (up[i] < 0) {\n        p.floor = -1;", "    if (up[i] < 0) {\n        p.wish = -9;");

    bound("No two live on one FLOOR.", "of whichever KIND", () -> {
      UpWhenDies x = with("lc50,0;ll90,0;");
      due("enter(0, 9, 0)", x.enter(0, 9, 0), -3);
      due("enter(5, 19, 0)", x.enter(5, 19, 0), -3);
      due("enter(2, 99, 0)", x.enter(2, 99, 0), -3);
      due("count(0)", x.count(0), 2);
    }).brokenBy("if (at(people, entry(kind, age)) != null) return no(-3);",
        "if (at(people, entry(kind, age)) != null && at(people, entry(kind, age)).kind == kind) return no(-3);");

    bound("No two live on one FLOOR.", "when two WISH the same", () -> {
      UpWhenDies x = with("ll10,0;ll20,0;ll30,0;w02;w11;w22;");
      due("changing()", x.changing(), 2);
      dueFloors(x, 2, 1, 3);
    }).brokenBy("if (q == p) set |= ring;", "if (q != null) set |= ring;");

    bound("YEAR (0 at first)", "0", () -> {
      UpWhenDies x = new UpWhenDies();
      due("count(2)", x.count(2), 0);
      due("image()", x.image(), 0);
    }).brokenBy("\n  int year;", "\n  int year = 1;");
  }

  private void kindLodger() {
    bound("l LODGER: AGE by 10, cut;", "FLOORS", () ->
        dueFloorsAt('l', 0, 0, 9, 0, 10, 1, 19, 1, 20, 2, 79, 7, 80, 8, 89, 8, 90, 9, 99, 9))
        .brokenBy("(age - 10) / 10;\n    return age / 10;", "(age - 10) / 10;\n    return (age + 1) / 10;");

    bound("AGE by 10, cut; 9 less", "CHANCES", () ->
        dueChancesAt('l', 0, 0, 9, 0, 10, 1, 19, 1, 49, 4, 50, 5, 89, 8, 90, 9, 99, 9))
        .brokenBy("default: return age / 10;", "default: return (age + 1) / 10;");

    bound("9 less AGE by 12, cut.", "up to which FLOOR one climbs", () ->
        dueClimbsAt('l', 0, 9, 11, 9, 12, 8, 23, 8, 24, 7, 59, 5, 60, 4, 95, 2, 96, 1, 99, 1))
        .brokenBy("a <= age; a += 12", "a < age; a += 12");
  }

  private void kindStrong() {
    bound("s STRONG under LODGER: as a LODGER;", "FLOORS", () ->
        dueFloorsAt('s', 0, 0, 9, 0, 10, 1, 89, 8, 90, 9, 99, 9))
        .brokenBy("if (k == 'y') return age", "if (k == 'y' || k == 's') return age");

    bound("half of a LODGER's CHANCE, cut;", "CHANCES", () ->
        dueChancesAt('s', 0, 0, 9, 0, 10, 0, 19, 0, 20, 1, 30, 1, 39, 1, 40, 2, 89, 4, 90, 4, 99, 4))
        .brokenBy("case 's': return chance('l') / 2;", "case 's': return (chance('l') + 1) / 2;");

    bound("2 more than a LODGER, 9 at most.", "up to which FLOOR one climbs", () ->
        dueClimbsAt('s', 0, 9, 11, 9, 12, 9, 24, 9, 35, 9, 36, 8, 47, 8, 48, 7, 95, 4, 96, 3, 99, 3))
        .brokenBy("Math.min(9, plain + 2)", "(plain + 2)")
        .brokenBy("Math.min(9, plain + 2)", "Math.min(8, plain + 2)")
        .brokenBy("Math.min(9, plain + 2)", "Math.min(9, plain + 3)");
  }

  private void kindIll() {
    bound("i ILL under LODGER: as a LODGER;", "FLOORS", () ->
        dueFloorsAt('i', 0, 0, 9, 0, 10, 1, 89, 8, 90, 9, 99, 9))
        .brokenBy("if (k == 'y') return age", "if (k == 'y' || k == 'i') return age");

    bound("3 more, 10 at most;", "CHANCES", () ->
        dueChancesAt('i', 0, 3, 9, 3, 10, 4, 59, 8, 60, 9, 69, 9, 70, 10, 79, 10, 80, 10, 99, 10))
        .brokenBy("Math.min(10, chance('l') + 3)", "(chance('l') + 3)")
        .brokenBy("Math.min(10, chance('l') + 3)", "Math.min(9, chance('l') + 3)");

    bound("10 at most; as a LODGER.", "up to which FLOOR one climbs", () ->
        dueClimbsAt('i', 0, 9, 11, 9, 12, 8, 95, 2, 96, 1, 99, 1))
        .brokenBy("== 's' || KINDS", "== 's' || kind == 2 || KINDS");
  }

  private void kindCellar() {
    bound("c CELLAR under LODGER: 0;", "FLOORS", () -> dueFloorsAt('c', 0, 0, 10, 0, 50, 0, 99, 0))
        .brokenBy("if (k == 'c') return 0;", "if (k == 'c' && age < 99) return 0;");

    bound("c CELLAR under LODGER: 0; as a LODGER;", "CHANCES", () ->
        dueChancesAt('c', 0, 0, 9, 0, 10, 1, 89, 8, 90, 9, 99, 9))
        .brokenBy("      case 's': return", "      case 'c': return 0;\n      case 's': return");

    bound("c CELLAR under LODGER: 0; as a LODGER; as a LODGER;", "up to which FLOOR one climbs", () ->
        dueClimbsAt('c', 0, 9, 11, 9, 12, 8, 95, 2, 96, 1, 99, 1))
        .brokenBy("== 's' || KINDS", "== 's' || kind == 3 || KINDS");

    bound("from FLOOR 0 he never moves up", "whoever dies", () -> {
      UpWhenDies x = with("lc50,9;ll10,0;ll20,0;ll90,0;");
      due("carried(12)", x.carried(12), 0);
      due("year(8)", x.year(8), 2);
      dueFloors(x, 0, 2, 3);
      due("year(6)", x.year(6), 0);
      dueFloors(x, 0);
    }).brokenBy("return KINDS.charAt(kind) == 'c' && floor == 0;", "return false;");
  }

  private void kindDoctored() {
    bound("d DOCTORED under ILL: as a LODGER;", "FLOORS", () ->
        dueFloorsAt('d', 0, 0, 9, 0, 10, 1, 89, 8, 90, 9, 99, 9))
        .brokenBy("if (k == 'y') return age", "if (k == 'y' || k == 'd') return age");

    bound("2 less than an ILL one, 0 at least;", "CHANCES", () ->
        dueChancesAt('d', 0, 1, 9, 1, 10, 2, 59, 6, 60, 7, 69, 7, 70, 8, 79, 8, 80, 8, 90, 8, 99, 8))
        .brokenBy("Math.max(0, chance('i') - 2)", "(chance('l') + 1)")
        .brokenBy("Math.max(0, chance('i') - 2)", "Math.max(0, chance('i') - 3)");

    bound("0 at least; as a LODGER.", "up to which FLOOR one climbs", () ->
        dueClimbsAt('d', 0, 9, 11, 9, 12, 8, 95, 2, 96, 1, 99, 1))
        .brokenBy("== 's' || KINDS", "== 's' || kind == 4 || KINDS");
  }

  private void kindYoung() {
    bound("FLOOR 1 less than a LODGER, 0 at least;", "FLOORS", () ->
        dueFloorsAt('y', 0, 0, 9, 0, 10, 0, 19, 0, 20, 1, 29, 1, 30, 2, 89, 7, 90, 8, 99, 8))
        .brokenBy("age < 10 ? 0 : (age - 10) / 10", "age / 10 - 1")
        .brokenBy("age < 10 ? 0 : (age - 10) / 10", "age < 30 ? 0 : (age - 10) / 10")
        .brokenBy("age < 10 ? 0 : (age - 10) / 10", "age / 10");

    bound("a STRONG one's, 0 below AGE 50;", "CHANCES", () ->
        dueChancesAt('y', 0, 0, 20, 0, 40, 0, 49, 0, 50, 2, 59, 2, 60, 3, 89, 4, 90, 4, 99, 4))
        .brokenBy("age < 50 ?", "age < 49 ?")
        .brokenBy("age < 50 ?", "age < 51 ?");

    bound("0 below AGE 50; as a STRONG one.", "up to which FLOOR one climbs", () ->
        dueClimbsAt('y', 0, 9, 12, 9, 35, 9, 36, 8, 95, 4, 96, 3, 99, 3))
        .brokenBy("== 's' || KINDS.charAt(kind) == 'y';", "== 's';");
  }

  private void whoDies() {
    bound("these LODGERS die at once;", "none, some, all", () -> {
      UpWhenDies x = with("ll10,0;ll20,0;ll30,0;ll40,0;");
      due("year(0)", x.year(0), 0);
      dueFloors(x, 1, 2, 3, 4);
      due("year(10)", x.year(10), 2);
      dueFloors(x, 3, -1, 4, -1);
      due("year(5)", x.year(5), 0);
      due("free()", x.free(), 1023);
    }).brokenBy("if (died && all", "if (up[i] == 0 && died && all")
        .brokenBy("if (!p.alive() || (deaths >> i & 1) == 1) continue;", "if (!p.alive()) continue;");
  }

  private void whoMovesUp() {
    bound("(but CELLARS on FLOOR 0)", "a CELLAR on another FLOOR moves up", () -> {
      UpWhenDies x = with("lc50,0;ll10,0;ll90,0;w01;w10;");
      due("changing()", x.changing(), 2);
      due("year(4)", x.year(4), 2);
      dueFloors(x, 2, 1);
    }).brokenBy("return KINDS.charAt(kind) == 'c' && floor == 0;", "return KINDS.charAt(kind) == 'c';");

    bound("(but CELLARS on FLOOR 0)", "another KIND on FLOOR 0 moves up", () -> {
      for (char kind : "lsidy".toCharArray()) {
        UpWhenDies x = with("l" + kind + "0,0;ll90,0;");
        due("year(2)", x.year(2), 1);
        dueFloors(x, 1);
      }
    }).brokenBy("return KINDS.charAt(kind) == 'c' && floor == 0;", "return floor == 0;");

    bound("as many FLOORS as died on FLOORS above his", "not below his, not on his own", () -> {
      UpWhenDies x = with("ll10,0;ll20,0;ll30,0;");
      due("year(1)", x.year(1), 0);
      dueFloors(x, -1, 2, 3);
      due("year(4)", x.year(4), 1);
      dueFloors(x, -1, 3, -1);
    }).brokenBy("floor > p.floor && !p", "floor != p.floor && !p")
        .brokenBy("floor > p.floor && !p", "floor > p.floor + 1 && !p");

    bound("as many FLOORS as died on FLOORS above his", "up to the highest FLOOR", () -> {
      UpWhenDies x = with("ll20,0;ll30,0;ll40,0;ll50,0;ll60,0;ll70,0;ll80,0;ll90,0;");
      due("year(254)", x.year(254), 1);
      dueFloors(x, 9);
    }).brokenBy("p.floor += up[i];", "p.floor = Math.min(8, p.floor + up[i]);");
  }

  private void agesAndYear() {
    bound("All living ones are a year older then (99 at most).", "98, 99, 0", () -> {
      UpWhenDies x = with("ll98,0;ll0,0;ll50,0;y2;");
      due("lodger(0, 1)", x.lodger(0, 1), 99);
      due("lodger(1, 1)", x.lodger(1, 1), 1);
      due("count(4)", x.count(4), 100);
      due("year(0)", x.year(0), 0);
      due("lodger(0, 1)", x.lodger(0, 1), 99);
      due("lodger(1, 1)", x.lodger(1, 1), 2);
    }).brokenBy("p.floor += up[i];\n        p.age = Math.min(99, p.age + 1);", "p.floor += up[i];\n        p.age++;")
        .brokenBy("p.floor += up[i];\n        p.age = Math.min(99, p.age + 1);",
            "p.floor += up[i];\n        p.age = Math.min(98, p.age + 1);");

    bound("YEAR is 1 more.", "up to 99", () -> {
      UpWhenDies x = with("ll10,0;y0;");
      due("count(2)", x.count(2), 1);
      for (int i = 2; i <= 99; i++) {
        due("year(0)", x.year(0), 0);
        due("count(2)", x.count(2), i);
      }
    }).brokenBy("    year++;\n    int moved", "    year = Math.min(98, year + 1);\n    int moved");
  }
}
