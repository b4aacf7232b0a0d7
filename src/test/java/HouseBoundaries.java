/** The boundary cases of a HOUSE told in letters, as the document names them under "Terms". */
final class HouseBoundaries extends Boundaries {
  private static final String EIGHT = "ll0,0;ll10,0;ll20,0;ll30,0;ll40,0;ll50,0;ll60,0;ll70,0;";

  HouseBoundaries() {
    under("Terms");
    whatAStatementIs();
    digitsOfLodgers();
    digitsOfOthers();
    faultsOfKindOne();
    placesOfKindTwo();
    faultsOfKindTwo();
    noRoomNoYear();
    allOrNothing();
  }

  private static void dueFaults(String... textsAndFaults) {
    for (int i = 0; i + 1 < textsAndFaults.length; i += 2) {
      dueHouse(new UpWhenDies(), textsAndFaults[i], Integer.parseInt(textsAndFaults[i + 1]));
    }
  }

  private static String years(int many) {
    return "y;".repeat(many);
  }

  private void whatAStatementIs() {
    bound("(80 at most)", "80 letters are a HOUSE", () -> dueHouse(new UpWhenDies(), years(40), 40))
        .brokenBy("text.length() == 80", "text.length() == 79");

    bound("(80 at most)", "an 81st does not come to them", () -> {
      UpWhenDies x = new UpWhenDies();
      tell(x, years(40));
      due("letter", x.letter('y'), -6);
      due("count(6)", x.count(6), 80);
      due("house()", x.house(), 40);
    }).brokenBy("text.length() == 80", "text.length() == 81");

    bound("each with \";\" behind", "without it, and with two", () -> dueFaults(
        "y", "-1001", "yy;", "-1001", "y;y", "-1003", "y;;", "-1002", "w00w", "-1003", "w00;;", "-1004",
        "ll1,2l", "-1005", "ll1,2;;", "-1006", ";y;", "-1000"))
        .brokenBy("|y[0-9]{0,8};)", "|y[0-9]{0,8};?)")
        .brokenBy("w[0-9][0-9];", "w[0-9][0-9];?")
        .brokenBy("{1,2},[0-9];", "{1,2},[0-9];?")
        .brokenBy("|y[0-9]{0,8};)", "|y[0-9]{0,8};|;)");

    bound("\"l\" a letter of a KIND", "each of the six", () -> {
      UpWhenDies x = with("ls10,0;li20,0;ld30,0;ly50,0;ll60,0;lc70,0;");
      int[] kinds = {1, 2, 4, 5, 0, 3};
      for (int i = 0; i < 6; i++) due("lodger(" + i + ", 0)", x.lodger(i, 0), kinds[i]);
      dueFloors(x, 1, 2, 3, 4, 6, 0);
    }).brokenBy("KINDS = \"lsicdy\"", "KINDS = \"lsidcy\"");

    bound("\"l\" a letter of a KIND", "no other letter", () -> dueFaults("lL1,0;", "-1001", "lw1,0;", "-1001",
        "lk1,0;", "-1001", "lz1,0;", "-1001", "l11,0;", "-1001", "l;", "-1001", "l,", "-1001"))
        .brokenBy("l[lsicdy]", "l[lsicdyz]")
        .brokenBy("l[lsicdy]", "l[lsicdyL]");
  }

  private void digitsOfLodgers() {
    bound("AGE (1 or 2 digits)", "one and two", () -> {
      UpWhenDies x = with("ll0,0;ll10,0;ll99,0;");
      int[] ages = {0, 10, 99};
      for (int i = 0; i < 3; i++) due("lodger(" + i + ", 1)", x.lodger(i, 1), ages[i]);
      due("age", with("ll9,0;").lodger(0, 1), 9);
    }).brokenBy("[0-9]{1,2}", "[0-9]{2}").brokenBy("[0-9]{1,2}", "[0-9]{1}");

    bound("AGE (1 or 2 digits)", "none and three", () -> dueFaults(
        "ll,0;", "-1002", "ll100,0;", "-1004", "ll099,0;", "-1004", "ll000,0;", "-1004"))
        .brokenBy("[0-9]{1,2}", "[0-9]{0,2}")
        .brokenBy("[0-9]{1,2}", "[0-9]{1,3}");

    bound("LOAD (a digit)", "the least and the greatest", () -> {
      UpWhenDies x = with("ll1,0;ll10,9;");
      due("lodger(0, 3)", x.lodger(0, 3), 0);
      due("lodger(1, 3)", x.lodger(1, 3), 9);
    }).brokenBy("{1,2},[0-9];", "{1,2},[1-9];").brokenBy("{1,2},[0-9];", "{1,2},[0-8];");

    bound("LOAD (a digit)", "none and two", () -> dueFaults(
        "ll1,;", "-1004", "ll1,00;", "-1005", "ll12,10;", "-1006", "ll1;", "-1003", "ll12;", "-1004"))
        .brokenBy("{1,2},[0-9];", "{1,2},[0-9]?;")
        .brokenBy("{1,2},[0-9];", "{1,2},[0-9]{1,2};")
        .brokenBy("{1,2},[0-9];", "{1,2}(,[0-9])?;");
  }

  private void digitsOfOthers() {
    bound("\"w\" a LODGER, a FLOOR (a digit each)", "the least and the greatest FLOOR", () -> {
      UpWhenDies x = with("ll50,0;ll60,0;w00;w19;");
      due("lodger(0, 6)", x.lodger(0, 6), 0);
      due("lodger(1, 6)", x.lodger(1, 6), 9);
    }).brokenBy("w[0-9][0-9];", "w[0-9][0-8];").brokenBy("w[0-9][0-9];", "w[0-9][1-9];");

    bound("\"w\" a LODGER, a FLOOR (a digit each)", "fewer and more", () -> dueFaults(
        "w;", "-1001", "w0;", "-1002", "w000;", "-1003", "w0,0;", "-1002"))
        .brokenBy("w[0-9][0-9];", "w[0-9]?[0-9];")
        .brokenBy("w[0-9][0-9];", "w[0-9][0-9]{1,2};");

    bound("\"y\" 0 to 8 digits", "none", () -> {
      UpWhenDies x = with("ll50,0;y;");
      due("count(0)", x.count(0), 1);
      due("count(2)", x.count(2), 1);
    }).brokenBy("y[0-9]{0,8}", "y[0-9]{1,8}");

    bound("\"y\" 0 to 8 digits", "eight", () -> {
      UpWhenDies x = with(EIGHT);
      dueHouse(x, "y01234567;", 1);
      due("count(0)", x.count(0), 0);
      dueHouse(with(EIGHT), "y76543210;", 1);
    }).brokenBy("y[0-9]{0,8}", "y[0-9]{0,7}");

    bound("a ninth digit is one", "whoever is told by it", () -> {
      dueHouse(with(EIGHT), "y012345678;", -1009);
      dueFaults("y000000000;", "-1009", "y00000000;", "-2000", "y;y000000000", "-1011");
    }).brokenBy("y[0-9]{0,8}", "y[0-9]{0,9}");

    bound("Numbers may begin with 0.", "AGES", () -> {
      String[] told = {"00", "01", "05", "09"};
      int[] ages = {0, 1, 5, 9};
      for (int i = 0; i < 4; i++) {
        UpWhenDies x = with("ll" + told[i] + ",0;");
        due("age " + told[i], x.lodger(0, 1), ages[i]);
        dueFloors(x, 0);
      }
    }).brokenBy("[0-9]{1,2}", "([1-9][0-9]?|0)");
  }

  private void faultsOfKindOne() {
    bound("At least one STATEMENT.", "no letter at all", () -> {
      UpWhenDies x = new UpWhenDies();
      due("house()", x.house(), -1000);
      due("house()", x.house(), -1000);
      dueHouse(x, "y;", 1);
      due("house()", x.house(), -1000);
    }).brokenBy("    int misfit = misfit(told);", "    if (told.isEmpty()) return 0;\n    int misfit = misfit(told);");

    bound("kind 1 the place of the first letter with which no HOUSE can go on", "each place", () -> dueFaults(
        "x", "-1000", "lx", "-1001", "llx", "-1002", "ll1x", "-1003", "ll12x", "-1004", "ll1,x", "-1004",
        "ll1,2x", "-1005", "wx", "-1001", "w0x", "-1002", "w00x", "-1003", "yx", "-1001", "y0x", "-1002",
        "y;x", "-1002", "y;yxx;", "-1003", " y;", "-1000", "y;\n", "-1002"))
        .brokenBy("!m.hitEnd()) return i;", "!m.hitEnd()) return i + 1;")
        .brokenBy("!m.hitEnd()) return i;", "!m.hitEnd()) return told.length();");

    bound("kind 1 the place of the first letter with which no HOUSE can go on", "the signs beside the digits", () ->
        dueFaults("ll/", "-1002", "ll:", "-1002", "ll1,/", "-1004", "ll1,:", "-1004", "w/", "-1001", "w:", "-1001",
            "w0/", "-1002", "w0:", "-1002", "y/", "-1001", "y:", "-1001"))
        .brokenBy("w[0-9][0-9];", "w[0-9][0-:];")
        .brokenBy("y[0-9]{0,8}", "y[/-9]{0,8}");

    bound("kind 1 the place of the first letter with which no HOUSE can go on", "the least and the greatest letter",
        () -> dueFaults("\0", "-1000", "\u00ff", "-1000", "y;\0", "-1002", "y;\u00ff", "-1002", "y\0", "-1001",
            "ll1,\u00ff", "-1004", "w\u00ff", "-1001"))
        .brokenBy("text += (char) c;", "if (c > 0 && c < 255) text += (char) c;");

    bound("(the end, if something lacks;", "behind each letter", () -> dueFaults("l", "-1001", "ll", "-1002",
        "ll1", "-1003", "ll12", "-1004", "ll1,", "-1004", "ll1,2", "-1005", "w", "-1001", "w1", "-1002",
        "w12", "-1003", "y", "-1001", "y1", "-1002", "y01234567", "-1009", "y;l", "-1003", "y;y;w0", "-1006"))
        .brokenBy("? -1 : told.length();", "? -1 : told.length() - 1;");

    bound("(the end, if something lacks;", "behind the 80th letter", () ->
        dueFaults(years(39) + "w0", "-1080", years(39) + "y0", "-1080", years(38) + "ll1,", "-1080"))
        .brokenBy("return -1000 - misfit;", "return -1000 - Math.min(79, misfit);");

    bound("-1000 less the place", "the first place and the last", () -> dueFaults("w;", "-1001", "z", "-1000",
        years(39) + "yy", "-1079", years(39) + "x;", "-1078", years(39) + "l;", "-1079"))
        .brokenBy("return -1000 - misfit;", "return -1001 - misfit;");
  }

  private void placesOfKindTwo() {
    bound("else kind 2", "kind 1 goes before one that stands ahead of it", () -> dueFaults(
        "w00;", "-2000", "w00;x", "-1004", "w00;w", "-1005", "y9;y", "-1004", "ll1,0;ll2,0;;", "-1012"))
        .brokenBy("if (misfit >= 0) return", "if (misfit >= 0 && told.charAt(0) != 'w') return");

    bound("-2000 less the place", "the first place and the last", () -> dueFaults(
        "w00;", "-2000", "y0;", "-2000", years(38) + "w00;", "-2076", years(38) + "y9;", "-2076"))
        .brokenBy("return -2000 - place;", "return -2001 - place;");

    bound("the first letter of the first STATEMENT", "not the letter, not a later STATEMENT", () -> dueFaults(
        "y;w00;w00;", "-2002", "ll1,0;y0;y00;y1;", "-2009", "ll1,0;w00;y;w19;y3;", "-2012"))
        .brokenBy("place += statement.length() + 1;", "place += statement.length();");

    bound("behind all ahead of it in the text", "a LODGER told ahead", () -> dueFaults(
        "w05;ll10,0;", "-2000", "ll10,0;w05;y0;", "3", "ll10,0;y0;w05;", "-2010"))
        .brokenBy("    pass(people, deaths);\n    year++;\n    return true;", "    year++;\n    return true;");

    bound("behind all ahead of it in the text", "FLOORS after moving up", () -> dueFaults("ll10,0;ll19,0;", "-2007",
        "ll10,0;y0;ll19,0;", "3", "ll10,0;ll90,0;y1;ll15,0;", "4", "ll10,0;ll90,0;y1;ll25,0;", "-2017"))
        .brokenBy("    pass(people, deaths);\n    year++;\n    return true;", "    year++;\n    return true;");
  }

  private void faultsOfKindTwo() {
    bound("somebody lives on that FLOOR", "the lowest and the highest", () -> dueFaults("ll0,0;ll9,0;", "-2006",
        "ll0,0;lc99,0;", "-2006", "ly19,0;ls5,0;", "-2007", "ll90,0;li99,0;", "-2007", "ly99,0;ld80,0;", "-2007"))
        .brokenBy("if (people.size() == 8 || at(people, entry(kind, age)) != null) return false;",
            "if (people.size() == 8) return false;");

    bound("no such LODGER alive", "none such", () -> dueFaults("w00;", "-2000", "ll1,0;w10;", "-2006",
        "ll1,0;w70;", "-2006", "w80;", "-2000", "w90;", "-2000", "y0;", "-2000", "ll1,0;y01;", "-2006",
        "y8;", "-2000", "y9;", "-2000"))
        .brokenBy("if (dead(c - '0') || ", "if (c < '8' && dead(c - '0') || ")
        .brokenBy("if (dead(s.charAt(1) - '0')) return false;", "if (dead(s.charAt(1) - '0')) return true;");

    bound("no such LODGER alive", "one who has died", () -> dueFaults(
        "ll1,0;y0;w00;", "-2009", "ll1,0;y0;y0;", "-2009", "ll1,0;ll10,0;y1;y01;", "-2016"))
        .brokenBy("if (dead(c - '0') || ", "if (c - '0' >= people.size() || ")
        .brokenBy("if (dead(s.charAt(1) - '0')) return false;",
            "if (s.charAt(1) - '0' >= people.size()) return false;");

    bound("one told twice", "in one YEAR", () -> dueFaults("ll1,0;y00;", "-2006", "ll1,0;ll10,0;y010;", "-2013",
        "ll1,0;ll10,0;y011;", "-2013", "ll1,0;ll10,0;y01;", "3"))
        .brokenBy(" || s.indexOf(c, 1) != s.lastIndexOf(c)", "");
  }

  private void noRoomNoYear() {
    bound("no room for more", "a ninth", () -> {
      UpWhenDies x = with(EIGHT);
      dueHouse(x, "ll80,0;", -2000);
      due("count(1)", x.count(1), 8);
      dueHouse(new UpWhenDies(), EIGHT + "ll90,0;", -2055);
    }).brokenBy("if (people.size() == 8 || at", "if (at")
        .brokenBy("if (people.size() == 8 || at", "if (people.size() == 7 || at");

    bound("no room for more", "though some have died", () -> {
      UpWhenDies x = with(EIGHT);
      dueHouse(x, "y7;ll90,0;", -2003);
      dueHouse(x, "y01234567;", 1);
      dueHouse(x, "ll90,0;", -2000);
    }).brokenBy("if (people.size() == 8 || at", "if (count(0) == 8 || at");

    bound("YEAR above 99", "the 99th YEAR comes, the 100th does not", () -> {
      UpWhenDies x = new UpWhenDies();
      passYears(x, 98);
      dueHouse(x, "y;y;", -2002);
      due("count(2)", x.count(2), 98);
      dueHouse(x, "y;", 1);
      due("count(2)", x.count(2), 99);
      dueHouse(x, "y;", -2000);
      dueHouse(x, "ll1,0;", 1);
      due("count(2)", x.count(2), 99);
    }).brokenBy("if (year == 99) return false;", "if (year == 98) return false;")
        .brokenBy("if (year == 99) return false;", "");
  }

  private void allOrNothing() {
    bound("Without FAULT all of it comes", "each kind of STATEMENT", () -> {
      UpWhenDies x = with("ll10,1;ls25,2;w08;y;y1;w05;");
      due("count(0)", x.count(0), 1);
      due("count(1)", x.count(1), 2);
      due("count(2)", x.count(2), 2);
      int[] told = {0, 12, 2, 1, 1, 8, 5};
      for (int what = 0; what < 7; what++) due("lodger(0, " + what + ")", x.lodger(0, what), told[what]);
    }).brokenBy("people.get(s.charAt(1) - '0').wish = s.charAt(2) - '0';", "");

    bound("with one nothing", "a FAULT of kind 2 in the last STATEMENT", () -> {
      UpWhenDies x = with("ll10,1;ll20,2;w05;");
      dueHouse(x, "w19;w04;lc5,5;y1;ll90,1;w10;", -2024);
      int[] first = {0, 10, 1, 1, 1, 9, 5};
      int[] second = {0, 20, 2, 2, 2, 8, -9};
      for (int what = 0; what < 7; what++) {
        due("lodger(0, " + what + ")", x.lodger(0, what), first[what]);
        due("lodger(1, " + what + ")", x.lodger(1, what), second[what]);
      }
      due("count(0)", x.count(0), 2);
      due("count(1)", x.count(1), 2);
      due("count(2)", x.count(2), 0);
      due("free()", x.free(), 1023 - 2 - 4);
    }).brokenBy("        people = before;\n", "")
        .brokenBy("        year = yearBefore;\n", "");

    bound("with one nothing", "a FAULT of kind 1 at the end", () -> {
      UpWhenDies x = new UpWhenDies();
      dueHouse(x, "ll20,0;y;x", -1009);
      dueHouse(x, "ll20,0;y", -1008);
      due("count(1)", x.count(1), 0);
      due("count(2)", x.count(2), 0);
    }).brokenBy("if (misfit >= 0) return",
        "if (misfit >= 0 && told.startsWith(\"ll20,0;\")) play(\"ll20,0\");\n    if (misfit >= 0) return");
  }
}
