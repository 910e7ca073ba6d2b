/** What the tests of the promises have in common: answers held against what is due, and short ways to give CLAIMS. */
final class Due {
  private static int wrong = 0;
  private static int asked = 0;

  private Due() {
  }

  /** A call that is made when it is asked for. */
  interface Call {
    long answer();
  }

  static void due(String call, long got, long want) {
    asked++;
    if (got != want) {
      wrong++;
      System.out.println(call + " answered " + got + ", due is " + want);
    }
  }

  /** Refusals: "They change nothing.": nothing that digest() tells of. */
  static void refused(String name, ClaimHall x, Call call, long want) {
    long before = x.digest();
    due(name, call.answer(), want);
    due(name + ": refusals change nothing", x.digest(), before);
  }

  /** A hall with SIGNS from 1 on: "f2" is a FUNCTION with 2 PARTS, "s0:9" a SAYING without PARTS that weighs 9. */
  static ClaimHall hall(String signs) {
    ClaimHall x = new ClaimHall();
    for (String one : signs.split(" ")) {
      x.sign(one.charAt(0) == 's', one.charAt(1) - '0', one.length() > 3 ? one.charAt(3) - '0' : 1);
    }
    return x;
  }

  /** Drafts the numbers and gives them. */
  static int give(ClaimHall x, int... numbers) {
    for (int v : numbers) x.draft(v);
    return x.given();
  }

  /** Drafts the rows one behind the other and gives them. */
  static int give(ClaimHall x, int[]... rows) {
    for (int[] row : rows) for (int v : row) x.draft(v);
    return x.given();
  }

  static int[] row(int... numbers) {
    return numbers;
  }

  /** The head, so many times a FUNCTION of one PART, then the last. */
  static int[] chain(int head, int function, int many, int last) {
    int[] row = new int[many + 2];
    row[0] = head;
    for (int k = 1; k <= many; k++) row[k] = function;
    row[many + 1] = last;
    return row;
  }

  /** The head, then so many LETTERS from the first on, held together by a FUNCTION of two PARTS. */
  static int[] letters(int head, int function, int first, int many) {
    int[] row = new int[2 * many];
    row[0] = head;
    for (int k = 0; k < many; k++) {
      if (k < many - 1) row[1 + 2 * k] = function;
      row[k < many - 1 ? 2 + 2 * k : 1 + 2 * k] = -1 - first - k;
    }
    return row;
  }

  /** A LITERAL's PLACES are as due, and whether it is denied. */
  static void literal(String name, ClaimHall x, int c, int i, boolean denied, int... places) {
    due(name + ": literal " + i + " of " + c + " denied", x.literal(c, i, 0), denied ? 1 : 0);
    due(name + ": literal " + i + " of " + c + " length", x.literal(c, i, 1), places.length);
    for (int k = 0; k < places.length; k++) {
      due(name + ": place " + k + " of literal " + i + " of " + c, x.literal(c, i, 2 + k), places[k]);
    }
  }

  /** The numbers of a STEP are as due: 0 those of 1 to 6 that its KIND has not; 7 to 9 no KIND has. */
  static void step(String name, ClaimHall x, int c, int... numbers) {
    for (int k = 0; k < 7; k++) {
      due(name + ": step(" + c + ", " + k + ")", x.step(c, k), k < numbers.length ? numbers[k] : 0);
    }
    for (int k = 7; k < 10; k++) due(name + ": step(" + c + ", " + k + ")", x.step(c, k), Integer.MIN_VALUE);
  }

  /** How many REWRITINGS a STEP has, and the numbers of each. */
  static void rewritings(String name, ClaimHall x, int c, int... numbers) {
    due(name + ": REWRITINGS of " + c, x.step(c, 10), numbers.length / 4);
    for (int k = 0; k < numbers.length; k++) {
      due(name + ": step(" + c + ", " + (11 + k) + ")", x.step(c, 11 + k), numbers[k]);
    }
    due(name + ": behind the REWRITINGS of " + c, x.step(c, 11 + numbers.length), Integer.MIN_VALUE);
  }

  static void counts(String name, ClaimHall x, int... counts) {
    for (int k = 0; k < counts.length; k++) due(name + ": count(" + k + ")", x.count(k), counts[k]);
  }

  static void end(String name) {
    System.out.println(name + ": " + asked + " answers asked, " + wrong + " not as due");
    if (wrong != 0) System.exit(1);
  }
}
