/** The boundary cases of all that is reckoned from LODGERS, as the document names them under "Terms". */
final class ReckoningBoundaries extends Boundaries {
  private static final long LONG_REFUSAL = 4000000000000000000L;

  ReckoningBoundaries() {
    under("Terms");
    howLikely();
    leastTerms();
    likeliestDeaths();
    stuckAndSafe();
    carried();
    rings();
    freeAndAges();
    rowTold();
    rowFitting();
    rowJudged();
    lotsCounted();
    lotsDrawn();
    image();
    refusals();
  }

  private void howLikely() {
    bound("HOW LIKELY it is that a LODGER lives on a FLOOR or above it", "below his, his own, above it", () -> {
      UpWhenDies x = with("ll10,0;ll90,0;");
      dueLikely(x, 0, 0, 1, 9, 10);
      dueLikely(x, 0, 1, 1, 9, 10);
      dueLikely(x, 0, 2, 1, 81, 100);
      dueLikely(x, 0, 3, 1, 0, 1);
      dueLikely(x, 1, 0, 1, 1, 10);
      dueLikely(x, 1, 9, 1, 1, 10);
      dueLikely(with("ll90,0;ll10,0;"), 1, 2, 1, 81, 100);
    }).brokenBy("floor >= floor ?", "floor > floor ?").brokenBy("floor >= floor ?", "floor == floor ?");

    bound("lives on a FLOOR or above it", "a CELLAR on FLOOR 0 and on another", () -> {
      UpWhenDies x = with("lc20,0;ll10,0;ll90,0;w01;w10;");
      dueLikely(x, 0, 0, 1, 4, 5);
      dueLikely(x, 0, 1, 1, 0, 1);
      dueLikely(x, 0, 1, 2, 0, 1);
      due("changing()", x.changing(), 2);
      dueLikely(x, 0, 1, 1, 4, 5);
      dueLikely(x, 0, 2, 1, 18, 25);
    }).brokenBy("return KINDS.charAt(kind) == 'c' && floor == 0;", "return false;")
        .brokenBy("return KINDS.charAt(kind) == 'c' && floor == 0;", "return KINDS.charAt(kind) == 'c';");

    bound("behind n YEARS (1, 2)", "one and two", () -> {
      UpWhenDies x = with("ll50,0;");
      dueLikely(x, 0, 5, 1, 1, 2);
      dueLikely(x, 0, 5, 2, 1, 4);
    }).brokenBy("weight(people, lodger, floor, n);", "weight(people, lodger, floor, 1);");

    bound("(by AGE then)", "one who comes to the next ten in the second YEAR", () -> {
      dueLikely(with("ll39,0;"), 0, 3, 2, 21, 50);
      dueLikely(with("ll38,0;"), 0, 3, 2, 49, 100);
      dueLikely(with("ly49,0;"), 0, 3, 2, 4, 5);
      // Above him one dies by 0.8, or else by 0.9 in the second YEAR: 1 less 0.2 times 0.1.
      dueLikely(with("ll0,0;ll89,0;"), 0, 1, 2, 49, 50);
    }).brokenBy("          pass(then, deaths);\n          sum =",
        "          pass(then, deaths);\n"
        + "          for (int i = 0; i < then.size(); i++) then.get(i).age = all.get(i).age;\n          sum =");

    bound("(by AGE then)", "nobody is ever above 99", () -> dueLikely(with("ll99,0;"), 0, 9, 2, 1, 100))
        .brokenBy("p.floor += up[i];\n        p.age = Math.min(99, p.age + 1);", "p.floor += up[i];\n        p.age++;");
  }

  private void leastTerms() {
    bound("a fraction in least terms", "never, surely, a half", () -> {
      dueLikely(with("li70,0;"), 0, 0, 1, 0, 1);
      dueLikely(with("li70,0;"), 0, 7, 2, 0, 1);
      dueLikely(with("ll0,0;"), 0, 0, 2, 1, 1);
      dueLikely(with("ll0,0;"), 0, 1, 1, 0, 1);
      dueLikely(with("ll50,0;"), 0, 5, 1, 1, 2);
      dueLikely(with("lc0,0;ll90,0;"), 0, 1, 2, 0, 1);
    }).brokenBy("BigInteger common = above.gcd(below);", "BigInteger common = BigInteger.ONE;")
        .brokenBy("BigInteger common = above.gcd(below);",
            "BigInteger common = above.signum() == 0 ? BigInteger.ONE : above.gcd(below);");

    bound("a fraction in least terms", "the greatest numbers that it can have", () -> {
      // They live by 9, 9, 7, 7, 3, 3, 3, 1 tenths: above the first not all seven live through both YEARS.
      UpWhenDies x = with("ld0,0;ll10,0;ld20,0;ll30,0;li40,0;ld60,0;ll70,0;ll90,0;");
      dueLikely(x, 0, 1, 2, 81L * (100000000000000L - 81L * 49 * 49 * 9 * 9 * 9), 10000000000000000L);
    }).brokenBy("divide(common).longValueExact()", "divide(common).intValue()");

    bound("MEAN: how many die in the next YEAR in the mean, in tenths", "nobody, one, several", () -> {
      due("mean()", new UpWhenDies().mean(), 0);
      due("mean()", with("ll9,0;").mean(), 0);
      due("mean()", with("li70,0;").mean(), 10);
      due("mean()", with("li70,0;li80,0;li90,0;").mean(), 30);
      due("mean()", with("li70,0;ll10,0;y0;").mean(), 1);
    }).brokenBy("mapToInt(Person::chance).sum();", "mapToInt(Person::chance).max().orElse(0);")
        .brokenBy("mapToInt(Person::chance).sum();", "mapToInt(p -> p.chance() + 1).sum();");
  }

  private void likeliestDeaths() {
    bound("those with the greatest CHANCE now", "not a YEAR later", () -> {
      // 7 and 8 now, 8 and 8 a YEAR later.
      dueDeaths(with("ll79,0;li50,0;ll20,0;"), 2, 3, 1, 2);
      // 8 and 8 now, 8 and 9 a YEAR later.
      dueDeaths(with("ll80,0;li59,0;ll20,0;"), 2, 3, 1, 1);
    }).brokenBy("above.sort((a, b) -> b.chance() - a.chance());",
            "for (Person q : above) q.age++;\n    above.sort((a, b) -> b.chance() - a.chance());\n"
            + "    for (Person q : above) q.age--;");

    bound("the likeliest set of so many above him (bits)", "not himself, not one below him", () -> {
      // CHANCES 10, 8, 9 on FLOORS 7, 8, 6.
      UpWhenDies x = with("li70,0;ll80,0;li60,0;");
      dueDeaths(x, 0, 8, 1, 2);
      dueDeaths(x, 0, 9, -9, -9);
      dueDeaths(x, 2, 7, 1, 1);
      dueDeaths(x, 2, 8, 2, 1 + 2);
    }).brokenBy("if (q.alive() && q.floor > p.floor) above", "if (q.alive() && q.floor >= p.floor) above")
        .brokenBy("if (q.alive() && q.floor > p.floor) above", "if (q.alive() && q != p) above");

    bound("of several the least numbers", "one, two, three of as great a CHANCE", () -> {
      // CHANCES 8, 8, 8 on FLOORS 8, 5, 7.
      UpWhenDies x = with("ll80,0;li50,0;ld70,0;ll20,0;");
      dueDeaths(x, 3, 3, 1, 1);
      dueDeaths(x, 3, 4, 2, 1 + 2);
      dueDeaths(x, 3, 5, 3, 1 + 2 + 4);
    }).brokenBy("above.add(q);", "above.add(0, q);");

    bound("-9 there are too few above him", "as many as he needs, one more", () -> {
      UpWhenDies x = with("ll20,0;ll30,0;ll90,0;ll10,0;");
      dueDeaths(x, 0, 4, 2, 2 + 4);
      dueDeaths(x, 0, 5, -9, -9);
      dueDeaths(x, 0, 9, -9, -9);
      dueDeaths(x, 1, 4, 1, 4);
      dueDeaths(x, 1, 5, -9, -9);
    }).brokenBy("needed > above.size()", "needed >= above.size()")
        .brokenBy("needed > above.size()", "needed > above.size() + 1");

    bound("he is a CELLAR on FLOOR 0,", "on FLOOR 0, on another", () -> {
      UpWhenDies x = with("lc20,0;ll10,0;ll90,0;w01;w10;");
      dueDeaths(x, 0, 1, -9, -9);
      due("changing()", x.changing(), 2);
      dueDeaths(x, 0, 2, 1, 4);
      dueDeaths(x, 1, 1, 1, 4);
    }).brokenBy(" || p.cellarBelow()) return -9;", ") return -9;")
        .brokenBy(" || p.cellarBelow()) return -9;", " || p.kind == 3) return -9;")
        .brokenBy(" || p.cellarBelow()) return -9;", " || p.floor == 0) return -9;");

    bound("or it is not above his", "his own and one below", () -> {
      UpWhenDies x = with("ll20,0;ll30,0;ll40,0;");
      dueDeaths(x, 0, 2, -9, -9);
      dueDeaths(x, 0, 1, -9, -9);
      dueDeaths(x, 0, 0, -9, -9);
      dueDeaths(x, 0, 3, 1, 4);
    }).brokenBy("if (needed < 1 ||", "if (needed < 0 ||");
  }

  private void stuckAndSafe() {
    bound("who live above where they climb.", "on it, one above it", () -> {
      due("59 on 5", with("ll59,0;").stuck(), 0);
      due("60 on 6, up to 4", with("ll60,0;").stuck(), 1);
      due("88 on 8, up to 4", with("ls88,0;").stuck(), 1);
      // On 5, where 59 climbs; the one above dies: on 6 with 60, up to 4.
      UpWhenDies x = with("lc99,0;ll59,0;ll90,0;");
      due("stuck()", x.stuck(), 4);
      due("year(4)", x.year(4), 1);
      due("stuck()", x.stuck(), 2);
      due("36 on 3", with("ls36,0;").stuck(), 0);
    }).brokenBy("if (p.alive() && p.floor > p.climbs())", "if (p.alive() && p.floor >= p.climbs())")
        .brokenBy("if (p.alive() && p.floor > p.climbs())", "if (p.alive() && p.floor > p.climbs() + 2)");

    bound("behind how many YEARS at most (0 .. 99)", "none", () -> {
      due("59 on 5", with("ll59,0;").safe(0), 0);
      due("58 on 5", with("ll58,0;").safe(0), 1);
    }).brokenBy("return years == 0 ? -9 : years - 1;", "return years <= 1 ? -9 : years - 1;");

    bound("behind how many YEARS at most (0 .. 99)", "99", () -> {
      due("a CELLAR", with("lc99,0;").safe(0), 99);
      due("on 1, up to 1 with 99", with("ll10,0;").safe(0), 99);
      due("on 3, up to 3 with 99", with("ls30,0;").safe(0), 99);
      due("on 2 until 95", with("ll20,0;").safe(0), 75);
    }).brokenBy("    return 99;\n", "    return 98;\n")
        .brokenBy("years < 100; years++", "years < 70; years++");

    bound("-9 he is STUCK now", "60 on 6", () -> {
      due("safe(0)", with("ll60,0;").safe(0), -9);
      due("safe(0)", with("ll99,0;").safe(0), -9);
    }).brokenBy("return years == 0 ? -9 : years - 1;", "return years - 1;");
  }

  private void carried() {
    bound("LOADS times FLOORS, of all who would move up", "none, the most", () -> {
      UpWhenDies x = with("ll20,9;ll30,9;ll40,9;ll50,9;ll60,9;ll70,9;ll80,9;ll90,9;");
      due("carried(0)", x.carried(0), 0);
      due("carried(255)", x.carried(255), 0);
      due("carried(1)", x.carried(1), 0);
      due("carried(254)", x.carried(254), 63);
      due("carried(240)", x.carried(240), 144);
      due("a LOAD of 0", with("ll20,0;ll30,1;").carried(2), 0);
      due("a CELLAR's LOAD", with("lc20,9;ll30,1;").carried(2), 0);
    }).brokenBy("Math.max(0, up[i])", "Math.abs(up[i])")
        .brokenBy("Math.max(0, up[i])", "Math.min(6, Math.max(0, up[i]))");

    bound("by whose death alone least is carried, of several the first", "several", () -> {
      due("0, 3, 5", with("ll10,3;ll20,2;ll30,1;").leastCarried(), 0);
      // Alone 4, 4, 0, 0.
      due("the third and the fourth", with("ll90,5;ll50,0;ll20,4;lc20,9;").leastCarried(), 2);
      due("all nothing", with("ll90,0;ll50,0;ll20,0;").leastCarried(), 0);
      due("the first who lives", with("ll0,9;ll90,0;ll50,0;y0;").leastCarried(), 1);
    }).brokenBy("carried(1 << i) <= carried(1 << best)", "carried(1 << i) < carried(1 << best)");
  }

  private void rings() {
    bound("the last that of the first", "a chain is none, a ring of two, of eight", () -> {
      UpWhenDies x = with("ll0,0;ll10,0;ll20,0;ll30,0;ll40,0;ll50,0;ll60,0;ll70,0;");
      for (int i = 0; i < 7; i++) due("wish", x.wish(i, i + 1), -9);
      due("a chain", x.rings(), 0);
      due("wish", x.wish(7, 6), -9);
      due("the last two", x.rings(), 64 + 128);
      due("wish", x.wish(7, 0), 6);
      due("all eight", x.rings(), 255);
      due("wish", x.wish(7, 8), 0);
      due("a free FLOOR", x.rings(), 0);
    }).brokenBy("if (q == p) set |= ring;", "if (q != null) set |= ring;")
        .brokenBy("q != null && i < 9;", "q != null && i < 7;");

    bound("(one alone, if he WISHES his own)", "one alone", () -> {
      UpWhenDies x = with("ll0,0;ll10,0;w00;");
      due("rings()", x.rings(), 1);
      due("changing()", x.changing(), 0);
      due("lodger(0, 6)", x.lodger(0, 6), -9);
    }).brokenBy("if (q == p) set |= ring;", "if (q == p && p.wish != p.floor) set |= ring;");

    bound("each WISHES the FLOOR on which the next one lives", "two RINGS and one outside", () -> {
      UpWhenDies x = with("ll10,0;ll20,0;ll30,0;ll40,0;ll50,0;ll60,0;w02;w13;w21;w35;w44;w51;");
      due("rings()", x.rings(), 1 + 2 + 4 + 8 + 16);
    }).brokenBy("if (q == p) set |= ring;", "if (q == p && i < 2) set |= ring;");

    bound("at once, their WISHES are no more", "of those in RINGS alone", () -> {
      UpWhenDies x = with("ll10,0;ll20,0;ll30,0;ll40,0;w02;w13;w21;w31;");
      due("changing()", x.changing(), 3);
      dueFloors(x, 2, 3, 1, 4);
      for (int i = 0; i < 3; i++) due("lodger(" + i + ", 6)", x.lodger(i, 6), -9);
      due("lodger(3, 6)", x.lodger(3, 6), 1);
      due("rings()", x.rings(), 0);
      due("changing()", x.changing(), 0);
    }).brokenBy("p.floor = p.wish;\n      p.wish = -9;", "p.floor = p.wish;")
        .brokenBy("if ((set >> i & 1) == 0) continue;", "if ((rings() >> i & 1) == 0) continue;")
        .brokenBy("    return moved;\n  }\n\n  public int free", "    for (Person p : people) p.wish = -9;\n"
            + "    return moved;\n  }\n\n  public int free");
  }

  private void freeAndAges() {
    bound("FREE: FLOORS (bits) on which nobody lives.", "all, two, the lowest and the highest", () -> {
      due("free()", new UpWhenDies().free(), 1023);
      due("free()", with("ll10,0;ll20,0;ll30,0;ll40,0;ll50,0;ll60,0;ll70,0;ll80,0;").free(), 1 + 512);
      due("free()", with("ll0,0;ll90,0;").free(), 1023 - 1 - 512);
    }).brokenBy("for (int f = 0; f < 10; f++)", "for (int f = 0; f < 9; f++)")
        .brokenBy("for (int f = 0; f < 10; f++)", "for (int f = 1; f < 10; f++)");

    bound("how many of 0 .. 99, the least; -9.", "all, the last ten", () -> {
      UpWhenDies x = new UpWhenDies();
      for (int kind = 0; kind < 6; kind++) {
        due("ages(kind, 0)", x.ages(kind, 0), 100);
        due("ages(kind, 1)", x.ages(kind, 1), 0);
      }
      x = with("ll0,0;ll10,0;ll20,0;ll30,0;ll40,0;ll50,0;ll60,0;");
      due("year(96)", x.year(96), 5);
      // They live on 2, 3, 4, 5, 6.
      due("ages(0, 0)", x.ages(0, 0), 50);
      due("ages(0, 1)", x.ages(0, 1), 0);
      due("ages(5, 0)", x.ages(5, 0), 50);
      due("ages(5, 1)", x.ages(5, 1), 0);
      x = with("ll0,0;ll10,0;ll20,0;ll30,0;ll40,0;ll50,0;ll80,0;");
      due("ages(0, 0)", x.ages(0, 0), 30);
      due("ages(0, 1)", x.ages(0, 1), 60);
      due("ages(5, 0)", x.ages(5, 0), 20);
      due("ages(5, 1)", x.ages(5, 1), 70);
    }).brokenBy("for (int age = 99; age >= 0; age--)", "for (int age = 98; age >= 0; age--)")
        .brokenBy("for (int age = 99; age >= 0; age--)", "for (int age = 99; age >= 1; age--)");

    bound("how many of 0 .. 99, the least; -9.", "none", () -> {
      UpWhenDies x = with("ll5,0;");
      due("ages(3, 0)", x.ages(3, 0), 0);
      due("ages(3, 1)", x.ages(3, 1), -9);
      due("ages(0, 1)", x.ages(0, 1), 10);
      due("ages(5, 1)", x.ages(5, 1), 20);
    }).brokenBy("    int least = -9;\n    for (int age", "    int least = 0;\n    for (int age");

    bound("AGES of a KIND with which one could come in now", "no room for a ninth", () -> {
      UpWhenDies x = with("ll10,0;ll20,0;ll30,0;ll40,0;ll50,0;ll60,0;ll70,0;");
      due("ages(0, 0)", x.ages(0, 0), 30);
      due("ages(3, 0)", x.ages(3, 0), 100);
      due("enter", x.enter(0, 80, 0), 7);
      for (int kind = 0; kind < 6; kind++) {
        due("ages(kind, 0)", x.ages(kind, 0), 0);
        due("ages(kind, 1)", x.ages(kind, 1), -9);
      }
      due("all die", x.year(255), 0);
      due("ages(0, 0)", x.ages(0, 0), 0);
    }).brokenBy("if (people.size() < 8 && at", "if (at")
        .brokenBy("if (people.size() < 8 && at", "if (count(0) < 8 && at");
  }

  private void rowTold() {
    bound("A ROW of numbers (0 .. 10; 8 at most) is told", "the least, the greatest, the eighth", () -> {
      UpWhenDies x = new UpWhenDies();
      tellRow(x, 0, 10, 9, 0, 10, 9, 0, 10);
      due("count(5)", x.count(5), 8);
      due("a ninth", x.row(5), -6);
      due("count(5)", x.count(5), 8);
    }).brokenBy("row.size() == 8) return no(-6);", "row.size() == 7) return no(-6);")
        .brokenBy("row.size() == 8) return no(-6);", "row.size() == 9) return no(-6);")
        .brokenBy("if (v > 10 ||", "if (v > 9 ||");

    bound("by those who live now, in their order", "the dead have no number in it", () -> {
      // 0 and 2 live, on 2 and 5.
      UpWhenDies x = with("ll10,0;ll30,0;ll50,0;y1;");
      tellRow(x, 2, 5);
      dueFitting(x, 1, 0);
      due("judge()", x.judge(), -9);
      tellRow(x, 3, 10);
      dueFitting(x, 1, 4);
      due("judge()", x.judge(), 0);
      tellRow(x, 10, 5);
      dueFitting(x, 2, 0);
    }).brokenBy("if (dead(i)) continue;\n        int told", "int told");

    bound("(10: not known)", "where he lives, and whether", () -> {
      UpWhenDies x = with("ll10,0;");
      tellRow(x, 10);
      dueFitting(x, 2, 0);
      x = with("ll0,0;ll10,0;ll20,0;ll30,0;ll40,0;ll50,0;ll60,0;ll70,0;");
      tellRow(x, 10, 10, 10, 10, 10, 10, 10, 10);
      dueFitting(x, 256, 0);
    }).brokenBy("if (told != 10 && then", "if (then").brokenBy("int deaths = 255; deaths", "int deaths = 254; deaths");
  }

  private void rowFitting() {
    bound("sets of deaths (of LODGERS who live)", "the dead are in none of them", () -> {
      UpWhenDies x = with("ll10,0;ll90,0;ll50,0;y1;");
      tellRow(x, 10, 10);
      dueFitting(x, 4, 0);
    }).brokenBy("if ((deaths | living) != living) continue;", "");

    bound("those whose FLOORS are told live on just these", "the dead live on none", () -> {
      UpWhenDies x = with("ll10,0;");
      tellRow(x, 1);
      dueFitting(x, 1, 0);
      due("judge()", x.judge(), -9);
      tellRow(x, 0);
      dueFitting(x, 0, -9);
      due("judge()", x.judge(), 0);
      tellRow(x, 2);
      dueFitting(x, 0, -9);
    }).brokenBy("then.get(i).floor != told) fits", "then.get(i).alive() && then.get(i).floor != told) fits");

    bound("the least (bits; -9)", "nothing, a single one, all above, none that fits", () -> {
      UpWhenDies x = with("ll10,0;ll30,0;ll50,0;");
      tellRow(x, 1, 10, 10);
      dueFitting(x, 1, 0);
      due("judge()", x.judge(), 1);
      tellRow(x, 2, 10, 10);
      dueFitting(x, 2, 2);
      due("judge()", x.judge(), 0);
      tellRow(x, 4, 10, 10);
      dueFitting(x, 0, -9);
      x = with("ll0,0;ll10,0;ll20,0;ll30,0;ll40,0;ll50,0;ll60,0;ll70,0;");
      tellRow(x, 7, 10, 10, 10, 10, 10, 10, 10);
      dueFitting(x, 1, 254);
    }).brokenBy("int deaths = 255; deaths >= 0; deaths--", "int deaths = 0; deaths <= 255; deaths++")
        .brokenBy("int deaths = 255; deaths", "int deaths = 253; deaths")
        .brokenBy("int least = -9;\n    for (int deaths", "int least = 0;\n    for (int deaths");
  }

  private void rowJudged() {
    bound("the first that is not so;", "the first place, the last, several", () -> {
      UpWhenDies x = with("ll10,0;ll30,0;ll50,0;");
      tellRow(x, 2, 3, 5);
      due("judge()", x.judge(), 0);
      tellRow(x, 1, 3, 4);
      due("judge()", x.judge(), 2);
      tellRow(x, 1, 4, 4);
      due("judge()", x.judge(), 1);
      tellRow(x, 0);
      due("not so, and too short", x.judge(), 0);
      tellRow(x, 1, 3, 9, 9);
      due("not so, and too long", x.judge(), 2);
    }).brokenBy("if (!told.get(i).equals(so.get(i))) return i;",
        "if (!told.get(i).equals(so.get(i)) && told.size() == so.size()) return i;")
        .brokenBy("if (!told.get(i).equals(so.get(i))) return i;",
            "if (told.get(i) > so.get(i)) return i;");

    bound("the first that is not so;", "10 is on no FLOOR", () -> {
      UpWhenDies x = with("ll10,0;ll30,0;");
      tellRow(x, 1, 10);
      due("judge()", x.judge(), 1);
      tellRow(x, 10, 3);
      due("judge()", x.judge(), 0);
    }).brokenBy("if (!told.get(i).equals(so.get(i))) return i;",
        "if (told.get(i) != 10 && !told.get(i).equals(so.get(i))) return i;");

    bound("where it ends, if too short;", "empty, one too few", () -> {
      UpWhenDies x = with("ll10,0;ll30,0;ll50,0;");
      due("judge()", x.judge(), 0);
      tellRow(x, 1);
      due("judge()", x.judge(), 1);
      tellRow(x, 1, 3);
      due("judge()", x.judge(), 2);
    }).brokenBy("return told.size() == so.size() ? -9 :", "return told.size() <= so.size() ? -9 :");

    bound("how many live, if too long;", "nobody lives, one too many", () -> {
      UpWhenDies x = new UpWhenDies();
      tellRow(x, 0);
      due("judge()", x.judge(), 0);
      tellRow(x, 10, 10, 10, 10, 10, 10, 10, 10);
      due("judge()", x.judge(), 0);
      x = with("ll10,0;ll30,0;ll50,0;y1;");
      tellRow(x, 2, 5, 5);
      due("judge()", x.judge(), 2);
    }).brokenBy("return told.size() == so.size() ? -9 :", "return told.size() >= so.size() ? -9 :")
        .brokenBy("-9 : Math.min(told.size(), so.size());", "-9 : told.size();");

    bound("too long; else -9", "nobody and no number, all eight", () -> {
      UpWhenDies x = new UpWhenDies();
      due("judge()", x.judge(), -9);
      x = with("ll0,0;ll10,0;ll20,0;ll30,0;ll40,0;ll50,0;ll60,0;ll70,0;");
      tellRow(x, 0, 1, 2, 3, 4, 5, 6, 7);
      due("judge()", x.judge(), -9);
    }).brokenBy("return told.size() == so.size() ? -9 :", "return told.size() == so.size() ? so.size() :");
  }

  private void lotsCounted() {
    bound("n YEARS (1 .. 40)", "one", () -> {
      // The first draws with the seed 0 are 3, 7, 6.
      due("lots(1, 0)", with("ll40,0;").lots(1, 0), 0);
      due("lots(1, 0)", with("ll30,0;").lots(1, 0), 1);
      due("lots(2, 0)", with("ll30,0;").lots(2, 0), 1);
      due("lots(1, 0)", with("ll79,0;").lots(1, 0), 0);
    }).brokenBy("for (int i = 0; i < n; i++) {", "for (int i = 1; i < n; i++) {");

    bound("n YEARS (1 .. 40)", "forty", () -> {
      // He is 50 in the 40th YEAR, and dies by 2 tenths then; the 40th draw with the seed 1 is below 2.
      UpWhenDies x = with("ly11,0;");
      due("lots(39, 1)", x.lots(39, 1), 1);
      due("lots(40, 1)", x.lots(40, 1), 0);
      due("lots(40, 0)", x.lots(40, 0), 1);
      due("lots(40, 1)", with("ly10,0;").lots(40, 1), 1);
    }).brokenBy("for (int i = 0; i < n; i++) {", "for (int i = 0; i < n && i < 39; i++) {")
        .brokenBy("for (int i = 0; i < n; i++) {", "for (int i = 0; i <= n; i++) {");

    bound("LODGER by LODGER who lives", "in their order; the dead draw nothing", () -> {
      due("3 kills the first, 7 not the second", with("ll40,0;ll50,0;").lots(1, 0), 2);
      due("one dead before", with("ll90,0;ll40,0;y0;").lots(1, 0), 0);
      // 3 kills the first, 7 not the second; 6 kills him in the second YEAR, 9 would not.
      due("one dead in mind", with("ll40,0;ll70,0;").lots(2, 0), 0);
      due("nobody", new UpWhenDies().lots(40, 5), 0);
    }).brokenBy("for (int j = 0; j < then.size(); j++) {", "for (int j = then.size() - 1; j >= 0; j--) {")
        .brokenBy("        if (!then.get(j).alive()) continue;\n        z =", "        z =");

    bound("he dies (in mind)", "all is as it was", () -> {
      UpWhenDies x = with("ll40,0;ll70,0;w04;");
      due("lots(2, 0)", x.lots(2, 0), 0);
      due("lots(2, 0)", x.lots(2, 0), 0);
      dueFloors(x, 4, 7);
      due("lodger(0, 1)", x.lodger(0, 1), 40);
      due("count(0)", x.count(0), 2);
      due("count(2)", x.count(2), 0);
    }).brokenBy("List<Person> then = copies(people);\n    for (int i", "List<Person> then = people;\n    for (int i");
  }

  private void lotsDrawn() {
    bound("a DRAW below 10 is less than CHANCE", "as great as it, one less", () -> {
      due("3 and 3", with("ll30,0;").lots(1, 0), 1);
      due("3 and 4", with("ll40,0;").lots(1, 0), 0);
      // The first draw with the seed 4 is 1, with 2 it is 7.
      due("1 and 1", with("ll10,0;").lots(1, 4), 1);
      due("1 and 2", with("ll20,0;").lots(1, 4), 0);
      due("7 and 7", with("ll70,0;").lots(1, 2), 1);
      due("7 and 8", with("ll80,0;").lots(1, 2), 0);
    }).brokenBy("% 10 < then", "% 10 <= then");

    bound("a DRAW below 10 is less than CHANCE", "CHANCE 0 and 10, draws 0 and 9", () -> {
      // The first draw with the seed 13 is 0, with 3 it is 9.
      due("0 and 0", with("ll9,0;").lots(1, 13), 1);
      due("0 and 1", with("ll10,0;").lots(1, 13), 0);
      due("9 and 9", with("ll99,0;").lots(1, 3), 1);
      due("9 and 10", with("li99,0;").lots(1, 3), 0);
    }).brokenBy("% 10 < then", "% 10 < 9 && signless / 256 % 10 < then")
        .brokenBy("% 10 < then", "% 10 <= then");

    bound("z becomes z times 1664525 and 1013904223 (an int)", "it wraps around", () -> {
      // The first draws are 1, 0, 6 with the greatest seed.
      due("1 and 1", with("ll10,0;").lots(1, GREATEST), 1);
      due("1 and 2", with("ll20,0;").lots(1, GREATEST), 0);
      due("1, then 0", with("ll10,0;").lots(2, GREATEST), 0);
      due("as with -1", with("ll10,0;ll20,0;").lots(1, -1), with("ll10,0;ll20,0;").lots(1, GREATEST));
    }).brokenBy("z = (int) (z * 1664525L + 1013904223L);",
        "z = (int) Math.min(Integer.MAX_VALUE, z * 1664525L + 1013904223L);");

    bound("(z without its sign's bit by 256, cut)", "below 0", () -> {
      // With the least seed z becomes what it becomes with 0 but for the sign's bit: a draw of 3.
      due("3 and 3", with("ll30,0;").lots(1, LEAST), 1);
      due("3 and 4", with("ll40,0;").lots(1, LEAST), 0);
    }).brokenBy("Integer.toUnsignedLong(z) % (1L << 31)", "Math.abs((long) z)")
        .brokenBy("Integer.toUnsignedLong(z) % (1L << 31)", "Integer.toUnsignedLong(z)")
        .brokenBy("Integer.toUnsignedLong(z) % (1L << 31)", "z");
  }

  private void image() {
    bound("all that is told, YEAR", "whoever came, died, moved, WISHED since", () -> {
      UpWhenDies x = with("ll10,1;ls22,2;w05;y;");
      due("image()", x.image(), 1);
      dueHouse(x, "w17;w03;lc70,3;y1;y;", 5);
      due("back()", x.back(), 1);
      int[] counts = {2, 2, 1, 3, 34};
      for (int what = 0; what < 5; what++) due("count(" + what + ")", x.count(what), counts[what]);
      int[] first = {0, 11, 1, 1, 1, 9, 5};
      int[] second = {1, 23, 2, 2, 1, 9, -9};
      for (int what = 0; what < 7; what++) {
        due("lodger(0, " + what + ")", x.lodger(0, what), first[what]);
        due("lodger(1, " + what + ")", x.lodger(1, what), second[what]);
      }
    }).brokenBy("keptPeople = copies(people);", "keptPeople = people;")
        .brokenBy("    year = keptYear;\n", "")
        .brokenBy("p.wish = wish;", "")
        .brokenBy("p.age = age;\n      p.floor = floor;\n      p.load", "p.floor = floor;\n      p.load");

    bound("(not the ROW, letters, REFUSALS)", "they stay what they are", () -> {
      UpWhenDies x = new UpWhenDies();
      tellRow(x, 4);
      tell(x, "y");
      due("on(10)", x.on(10), -1);
      due("image()", x.image(), 0);
      due("row(5)", x.row(5), 2);
      due("letter", x.letter(';'), 2);
      due("on(10)", x.on(10), -1);
      due("back()", x.back(), 0);
      due("count(5)", x.count(5), 2);
      due("count(6)", x.count(6), 2);
      due("count(11)", x.count(11), 2);
      due("house()", x.house(), 1);
      due("judge()", x.judge(), 0);
    }).brokenBy("    people = copies(keptPeople);\n", "    people = copies(keptPeople);\n    row.clear();\n")
        .brokenBy("    people = copies(keptPeople);\n", "    people = copies(keptPeople);\n    text = \"\";\n")
        .brokenBy("    people = copies(keptPeople);\n",
            "    people = copies(keptPeople);\n    java.util.Arrays.fill(refusals, 0);\n");

    bound("ON from it all is as then", "again and again, for what goes on leaves it as it was", () -> {
      UpWhenDies x = with("ll10,0;ll90,0;");
      due("image()", x.image(), 0);
      for (int i = 0; i < 3; i++) {
        due("year(2)", x.year(2), 1);
        due("enter", x.enter(0, 50, 0), 2);
        due("back()", x.back(), 0);
        dueFloors(x, 1, 9, -1);
        due("count(1)", x.count(1), 2);
      }
    }).brokenBy("people = copies(keptPeople);", "people = keptPeople;");
  }

  /** All that can be read without a refusal, in one number. */
  private static long snapshot(UpWhenDies x) {
    long all = x.image();
    for (int what = 0; what < 7; what++) all = all * 31 + x.count(what);
    for (int i = 0; i < 2; i++) {
      for (int what = 0; what < 7; what++) all = all * 31 + x.lodger(i, what);
    }
    for (int floor = 0; floor < 10; floor++) all = all * 31 + x.on(floor);
    return all * 31 + x.fitting(0);
  }

  private void refusals() {
    bound("the first that fits in the order in which it tells them", "several that fit", () -> {
      UpWhenDies x = with("ll10,0;ll90,0;y1;");
      due("enter(6, -1, 10)", x.enter(6, -1, 10), -2);
      due("enter(0, -1, 10)", x.enter(0, -1, 10), -4);
      due("enter(0, 20, 10)", x.enter(0, 20, 10), -6);
      due("lodger(1, 7)", x.lodger(1, 7), -1);
      due("likely(0, 10, 0, 2)", x.likely(0, 10, 0, 2), LONG_REFUSAL + 1);
      due("likely(0, 9, 0, 2)", x.likely(0, 9, 0, 2), LONG_REFUSAL + 4);
      due("likely(0, 9, 3, 2)", x.likely(0, 9, 3, 2), LONG_REFUSAL + 6);
      due("deaths(1, 9, 2)", x.deaths(1, 9, 2), -1);
      due("fitting(2)", x.fitting(2), -2);
      tellRow(x, 1, 1, 1, 1, 1, 1, 1, 1);
      due("row(-1)", x.row(-1), -4);
      tell(x, "y".repeat(80));
      due("letter(-1)", x.letter(-1), -4);
      passYears(x, 98);
      due("year(2)", x.year(2), -1);
      due("year(0)", x.year(0), -6);
    }).brokenBy("if (dead(lodger) || floor < 0 || floor > 9) refusal = -1;", "if (part > 1) refusal = -2;")
        .brokenBy("    if (someDead(deaths)) return no(-1);\n    if (year == 99) return no(-6);",
            "    if (year == 99) return no(-6);\n    if (someDead(deaths)) return no(-1);")
        .brokenBy("    if (v < 0) return no(-4);\n    if (v > 10 || row.size() == 8) return no(-6);",
            "    if (v > 10 || row.size() == 8) return no(-6);\n    if (v < 0) return no(-4);");

    bound("nothing changes but how many there were", "each call that can be refused", () -> {
      UpWhenDies x = with("ll10,1;ll90,2;w09;");
      tellRow(x, 1, 9);
      long before = snapshot(x);
      int[] refused = {x.letter(-1), x.letter(256), x.enter(6, 5, 5), x.enter(0, -1, 5), x.enter(0, 5, -1),
        x.enter(0, 100, 5), x.enter(0, 5, 10), x.enter(0, 15, 5), x.lodger(2, 0), x.lodger(0, 7), x.wish(2, 0),
        x.wish(0, 10), x.wish(0, -2), x.year(4), x.year(-1), x.on(10), x.deaths(0, 10, 0), x.deaths(0, 5, 2),
        x.safe(2), x.carried(4), x.ages(6, 0), x.ages(0, 2), x.row(-1), x.row(11), x.fitting(2), x.lots(0, 0),
        x.lots(41, 0)};
      int[] want = {-4, -6, -2, -4, -4, -6, -6, -3, -1, -2, -1, -1, -1, -1, -1, -1, -1, -2, -1, -1, -2, -2, -4, -6,
        -2, -4, -6};
      for (int i = 0; i < want.length; i++) due("refusal " + i, refused[i], want[i]);
      due("likely(0, 0, 3, 0)", x.likely(0, 0, 3, 0), LONG_REFUSAL + 6);
      due("all the rest is as it was", snapshot(x), before);
      int[] counted = {10, 6, 1, 5, 0, 6};
      for (int i = 0; i < 6; i++) due("count(" + (11 + i) + ")", x.count(11 + i), counted[i]);
    }).brokenBy("if (v > 10 || row.size() == 8) return no(-6);",
        "if (v > 10 || row.size() == 8) {\n      row.clear();\n      return no(-6);\n    }")
        .brokenBy("if (dead(lodger) || floor < -1 || floor > 9) return no(-1);",
            "if (!dead(lodger) && floor > 9) people.get(lodger).wish = -9;\n"
            + "    if (dead(lodger) || floor < -1 || floor > 9) return no(-1);")
        .brokenBy("refusals[10 - number]++;", "refusals[10 - number] = 1;");

    bound("Of longs 4000000000000000000 less them (-1 as 4000000000000000001)", "each of likely's", () -> {
      UpWhenDies x = with("ll10,0;");
      due("likely(1, 0, 1, 0)", x.likely(1, 0, 1, 0), 4000000000000000001L);
      due("likely(0, 0, 1, 2)", x.likely(0, 0, 1, 2), 4000000000000000002L);
      due("likely(0, 0, 0, 0)", x.likely(0, 0, 0, 0), 4000000000000000004L);
      due("likely(0, 0, 3, 0)", x.likely(0, 0, 3, 0), 4000000000000000006L);
      for (int number : new int[] {1, 2, 4, 6}) due("count", x.count(10 + number), 1);
    }).brokenBy("return 4000000000000000000L - no(refusal);", "return 4000000000000000000L + no(refusal);")
        .brokenBy("return 4000000000000000000L - no(refusal);", "return 4000000000000000000L - refusal;");
  }
}
