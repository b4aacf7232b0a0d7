/** Counts and prints the answers that are not due. */
final class Check {
  private static int calls = 0;
  private static int wrong = 0;

  private Check() {
  }

  static void due(String call, long got, long want) {
    calls++;
    if (got == want) return;
    wrong++;
    if (wrong <= 50) System.out.println(call + " answered " + got + ", due is " + want);
  }

  static void isTrue(String what, boolean holds) {
    due(what, holds ? 1 : 0, 1);
  }

  /** To be called last in each test's main. */
  static void end() {
    System.out.println(calls + " answers looked at, " + wrong + " not as due");
    if (wrong != 0 || calls == 0) System.exit(1);
  }
}
