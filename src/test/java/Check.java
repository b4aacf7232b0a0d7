/** Counts and prints the answers that are not due. */
final class Check {
  private static int calls = 0;
  private static int wrong = 0;
  private static boolean quiet = false;
  private static String heading = "";

  private Check() {
  }

  /** What is printed ahead of each call from now on. */
  static void under(String newHeading) {
    heading = newHeading;
  }

  static void due(String call, long got, long want) {
    calls++;
    if (got == want) return;
    wrong++;
    if (!quiet && wrong <= 50) System.out.println(heading + call + " answered " + got + ", due is " + want);
  }

  static void isTrue(String what, boolean holds) {
    due(what, holds ? 1 : 0, 1);
  }

  /** How many answers in it are not as due, one more if it throws; nothing is printed. */
  static int wrongIn(Runnable test) {
    int before = wrong;
    quiet = true;
    try {
      test.run();
    } catch (RuntimeException | Error thrown) {
      wrong++;
    }
    quiet = false;
    return wrong - before;
  }

  /** To be called last in each test's main. */
  static void end() {
    System.out.println(calls + " answers looked at, " + wrong + " not as due");
    if (wrong != 0 || calls == 0) System.exit(1);
  }
}
