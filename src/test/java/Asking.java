/** What many tests ask in the same way. */
abstract class Asking {
  static final int LEAST = Integer.MIN_VALUE;
  static final int GREATEST = Integer.MAX_VALUE;

  static void due(String call, long got, long want) {
    Check.due(call, got, want);
  }

  static void tell(UpWhenDies x, String text) {
    for (int i = 0; i < text.length(); i++) due("letter " + i + " of " + text, x.letter(text.charAt(i)), i + 1);
  }

  static int house(UpWhenDies x, String text) {
    tell(x, text);
    return x.house();
  }

  static void dueHouse(UpWhenDies x, String text, int want) {
    due("house " + text, house(x, text), want);
  }

  /** A new object in which this HOUSE, one without FAULT, has come. */
  static UpWhenDies with(String text) {
    UpWhenDies x = new UpWhenDies();
    int statements = 0;
    for (int i = 0; i < text.length(); i++) if (text.charAt(i) == ';') statements++;
    dueHouse(x, text, statements);
    return x;
  }

  static void passYears(UpWhenDies x, int years) {
    for (int i = 0; i < years; i++) due("year(0)", x.year(0), 0);
  }

  static void dueFloors(UpWhenDies x, int... floors) {
    for (int i = 0; i < floors.length; i++) due("lodger(" + i + ", 2)", x.lodger(i, 2), floors[i]);
  }

  static void tellRow(UpWhenDies x, int... numbers) {
    for (int i = 0; i < numbers.length; i++) due("row(" + numbers[i] + ")", x.row(numbers[i]), i + 1);
  }

  static void dueLikely(UpWhenDies x, int lodger, int floor, int n, long above, long below) {
    String call = "likely(" + lodger + ", " + floor + ", " + n + ", ";
    due(call + "0)", x.likely(lodger, floor, n, 0), above);
    due(call + "1)", x.likely(lodger, floor, n, 1), below);
  }

  static void dueDeaths(UpWhenDies x, int lodger, int floor, int many, int set) {
    String call = "deaths(" + lodger + ", " + floor + ", ";
    due(call + "0)", x.deaths(lodger, floor, 0), many);
    due(call + "1)", x.deaths(lodger, floor, 1), set);
  }

  static void dueFitting(UpWhenDies x, int many, int least) {
    due("fitting(0)", x.fitting(0), many);
    due("fitting(1)", x.fitting(1), least);
  }
}
