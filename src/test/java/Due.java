/** What the tests of the promises have in common: answers held against what is due, and short ways to give CLAIMS. */
final class Due {
  private static int wrong = 0;
  private static int asked = 0;

  private Due() {
  }

  static void due(String call, long got, long want) {
    asked++;
    if (got != want) {
      wrong++;
      System.out.println(call + " answered " + got + ", due is " + want);
    }
  }

  /** Drafts the numbers and gives them. */
  static int give(ClaimHall x, int... numbers) {
    for (int v : numbers) x.draft(v);
    return x.given();
  }

  /** A LITERAL's PLACES are as due, and whether it is denied. */
  static void literal(String name, ClaimHall x, int c, int i, boolean denied, int... places) {
    due(name + ": literal " + i + " of " + c + " denied", x.literal(c, i, 0), denied ? 1 : 0);
    due(name + ": literal " + i + " of " + c + " length", x.literal(c, i, 1), places.length);
    for (int k = 0; k < places.length; k++) {
      due(name + ": place " + k + " of literal " + i + " of " + c, x.literal(c, i, 2 + k), places[k]);
    }
  }

  /** The numbers of a STEP are as due: 0 those of 1 to 6 that its KIND has not; 7 to 9 no KIND has. */
  static void step(String name, ClaimHall x, int c, int... numbers) {
    for (int k = 0; k < 7; k++) {
      due(name + ": step(" + c + ", " + k + ")", x.step(c, k), k < numbers.length ? numbers[k] : 0);
    }
    for (int k = 7; k < 10; k++) due(name + ": step(" + c + ", " + k + ")", x.step(c, k), Integer.MIN_VALUE);
  }

  static void counts(String name, ClaimHall x, int... counts) {
    for (int k = 0; k < counts.length; k++) due(name + ": count(" + k + ")", x.count(k), counts[k]);
  }

  static void end(String name) {
    System.out.println(name + ": " + asked + " answers asked, " + wrong + " not as due");
    if (wrong != 0) System.exit(1);
  }
}
