/** Compares answers with those that are due, prints the wrong ones, and ends the program with 1 if there were any. */
final class Check {
  private static final int MOST_PRINTED = 40;
  private int asked = 0;
  private int wrong = 0;

  void due(String what, long got, long want) {
    asked++;
    if (got != want) {
      wrong++;
      if (wrong <= MOST_PRINTED) {
        System.out.println(what + " answered " + got + ", due is " + want);
      }
    }
  }

  void holds(String what, boolean is) {
    due(what, is ? 1 : 0, 1);
  }

  boolean isRight() {
    return wrong == 0;
  }

  int asked() {
    return asked;
  }

  void end() {
    System.out.println(asked + " answers, " + wrong + " wrong");
    if (wrong != 0 || asked == 0) {
      System.exit(1);
    }
  }
}
