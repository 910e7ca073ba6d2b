/** Edges of part 3: the CHOSEN one, the KINDS of STEPS, when a STEP is LOST, and what kinds of STEPS there are not. */
public final class EdgeStepsTest {
  private static final int NONE = -1;
  private static final int A = 1, B = 2, F = 3, H = 4, G = 5, P = 6, Q = 7, S = 8, T = 9;
  private static final int X = -1, Y = -2, Z = -3;

  /** FUNCTIONS A and B without PARTS, F and H with one, G with two; SAYINGS P with one, Q with two, S and T without. */
  private static ClaimHall hall() {
    return Due.hall("f0 f0 f1 f1 f2 s1 s2 s0 s0");
  }

  /** The STEPS that were made, those LOST, those PUT AWAY at once, and the CLAIMS that are KEPT. */
  private static void made(String name, ClaimHall x, int made, int lost, int atOnce, int kept) {
    Due.due(name + ": made", x.count(7), made);
    Due.due(name + ": LOST", x.count(6), lost);
    Due.due(name + ": PUT AWAY at once", x.count(5), atOnce);
    Due.due(name + ": KEPT", x.count(1), kept);
  }

  /**
   * "A CLAIM with a denied LITERAL has a CHOSEN one: the heaviest of the denied, of as heavy ones the first. One
   * without is POSITIVE."
   */
  private static void chosen() {
    ClaimHall x = hall();
    Due.give(x, 1000 + S, 1000 + P, A);
    Due.due("POSITIVE", x.claim(0, 4), NONE);
    Due.give(x, 1000 + Q, F, A, F, A, 2000 + T);
    Due.due("one that is said is not CHOSEN", x.claim(1, 4), 1);
    Due.give(x, 2000 + P, A, 2000 + P, F, A, 2000 + P, F, B, 2000 + S);
    Due.due("of as heavy ones the first", x.claim(2, 4), 1);
    Due.give(x, 2000 + P, B, 2000 + T, 2000 + Q, B, B, 2000 + Q, B, A, 2000 + P, H, B, 2000 + P, F, F, F, B);
    Due.due("heavier by 1, the last of six", x.claim(3, 4), 5);
    x.clear();
    x.given();
    Due.due("no LITERALS", x.claim(0, 4), NONE);
  }

  /** "1 CLASH (p, i, n): p is POSITIVE" */
  private static void clashPositive() {
    ClaimHall x = hall();
    Due.give(x, 1000 + S, 2000 + T);
    Due.give(x, 2000 + S, 2000 + Q, A, A);
    Due.give(x, 1000 + P, A);
    Due.give(x, 2000 + S);
    Due.due("SATURATED", x.run(10), 2);
    made("p is not POSITIVE", x, 0, 0, 0, 4);
  }

  /** "and what the CHOSEN one of n denies, have a WIDEST STANDING" */
  private static void clashChosen() {
    ClaimHall x = hall();
    Due.give(x, 2000 + S, 2000 + P, A);
    Due.give(x, 1000 + S);
    Due.due("SATURATED", x.run(10), 2);
    made("S is not CHOSEN", x, 0, 0, 0, 2);
  }

  /** "the LITERALS of p but i, then those of n but the CHOSEN one, under it." */
  private static void clashLiterals() {
    ClaimHall x = hall();
    Due.give(x, 1000 + P, X, 1000 + S, 1000 + Q, X, Y);
    Due.give(x, 1000 + T, 2000 + P, F, X, 1000 + Q, X, X, 2000 + P, A);
    x.run(2);
    Due.step("CLASH", x, 2, 1, 0, 0, 1);
    Due.literal("of p", x, 2, 0, false, S);
    Due.literal("of p under it", x, 2, 1, false, Q, F, -1, -2);
    Due.literal("of n", x, 2, 2, false, T);
    Due.literal("of n under it", x, 2, 3, false, Q, -1, -1);
    Due.literal("of n behind the CHOSEN one", x, 2, 4, true, P, A);
    Due.due("LITERALS", x.claim(2, 0), 5);
    ClaimHall y = hall();
    Due.give(y, 1000 + S);
    Due.give(y, 2000 + S);
    Due.due("none is left", y.run(2), 1);
    Due.due("LITERALS", y.claim(2, 0), 0);
  }

  /**
   * "2 FACTOR (p, i, j), i less than j: p is POSITIVE, LITERALS i and j have one (i being the first): all of p but j,
   * under it."
   */
  private static void factor() {
    ClaimHall x = hall();
    Due.give(x, 1000 + S, 1000 + T, 1000 + P, X, 1000 + Q, A, X, 1000 + Q, B, Z, 1000 + Q, Y, F, A);
    x.run(1);
    Due.step("LITERALS 3 and 5 of six", x, 1, 2, 0, 3, 5);
    Due.due("all but one", x.claim(1, 0), 5);
    Due.literal("in all", x, 1, 2, false, P, F, A);
    Due.literal("under it", x, 1, 3, false, Q, A, F, A);
    Due.literal("another LETTER", x, 1, 4, false, Q, B, -1);
    Due.step("LITERALS 4 and 5", x, 2, 2, 0, 4, 5);
    Due.literal("another LETTER", x, 2, 3, false, Q, A, -1);
    Due.literal("under it", x, 2, 4, false, Q, B, F, A);
    made("each pair once", x, 2, 0, 0, 3);
    ClaimHall y = hall();
    Due.give(y, 1000 + P, X);
    Due.give(y, 2000 + T, 1000 + Q, X, Y, 1000 + Q, A, Z);
    Due.due("SATURATED", y.run(5), 2);
    made("one LITERAL alone, and one that is not POSITIVE", y, 0, 0, 0, 2);
  }

  /** "3 DROP (n): the CHOSEN one denies EQUAL, its sides have one (the left being the first): all but it, under it." */
  private static void drop() {
    ClaimHall x = hall();
    Due.give(x, 1000 + T, 2000, X, F, Y, 1000 + Q, X, Y);
    x.run(1);
    Due.step("DROP", x, 1, 3, 0);
    Due.due("all but it", x.claim(1, 0), 2);
    Due.literal("under it", x, 1, 1, false, Q, F, -1, -1);
    made("once", x, 1, 0, 0, 2);
    ClaimHall y = hall();
    Due.give(y, 2000, F, X, X);
    Due.give(y, 2000, A, X, 2000 + Q, F, A, A);
    Due.give(y, 2000, A, B);
    Due.due("SATURATED", y.run(5), 2);
    made("the LETTER is in it; EQUAL is not CHOSEN; no WIDEST STANDING", y, 0, 0, 0, 3);
    ClaimHall z = hall();
    Due.give(z, 2000, X, A);
    Due.due("none is left", z.run(1), 1);
  }

  /** "l is its left side (side 0), or its right one (1), r the other" */
  private static void turnSides() {
    ClaimHall x = hall();
    x.turns(0);
    Due.give(x, 1000, G, X, A, G, A, X, 1000 + S);
    Due.give(x, 1000 + P, G, B, A);
    x.run(2);
    Due.step("side 0", x, 2, 4, 0, 0, 0, 1, 0, 1);
    Due.literal("side 0", x, 2, 1, false, P, G, A, B);
    ClaimHall y = hall();
    y.turns(0);
    Due.give(y, 1000, G, A, X, G, X, A, 1000 + S);
    Due.give(y, 1000 + P, G, B, A);
    y.run(2);
    Due.step("side 1", y, 2, 4, 0, 0, 1, 1, 0, 1);
    Due.literal("side 1", y, 2, 1, false, P, G, A, B);
    for (int side : new int[] {Integer.MIN_VALUE, -1, 2, Integer.MAX_VALUE}) {
      y.forge(2, 3, side);
      Due.due("there is no side " + side, y.judge(2), 0);
    }
    y.forge(2, 3, 1);
    Due.due("side 1 again", y.judge(2), 1);
  }

  /** "by i, sides, j, PLACES" */
  private static void turnOrder() {
    ClaimHall x = Due.hall("f0 f0 f0 f0 f1 s2 s0");
    x.turns(0);
    Due.give(x, 1000, 2, 1, 1007, 1000, 4, 3);
    Due.give(x, 1006, 4, 5, 2, 1006, 2, 4);
    x.run(2);
    Due.step("the first EQUAL, the last PLACE of the first LITERAL", x, 2, 4, 0, 0, 0, 1, 0, 3);
    Due.step("the first PLACE of the second", x, 3, 4, 0, 0, 0, 1, 1, 1);
    Due.step("the second EQUAL", x, 4, 4, 0, 2, 0, 1, 0, 1);
    Due.step("the last PLACE of the second", x, 5, 4, 0, 2, 0, 1, 1, 2);
    Due.literal("the LITERALS of p but i", x, 5, 0, false, 0, 2, 1);
    Due.literal("the LITERALS of p but i", x, 5, 1, false, 7);
    Due.literal("then those of n", x, 5, 2, false, 6, 4, 5, 2);
    Due.literal("in whose LITERAL j r stands at that PLACE", x, 5, 3, false, 6, 2, 3);
    made("with itself twice", x, 6, 0, 2, 6);
  }

  /** "place (1 and more) a PLACE in it at which no LETTER is" */
  private static void turnPlaces() {
    ClaimHall x = hall();
    x.turns(0);
    Due.give(x, 1000, B, A, 1000 + S);
    Due.give(x, 1000 + Q, B, F, B);
    x.run(2);
    Due.step("PLACE 1", x, 2, 4, 0, 0, 0, 1, 0, 1);
    Due.literal("PLACE 1", x, 2, 1, false, Q, A, F, B);
    Due.step("the last PLACE", x, 3, 4, 0, 0, 0, 1, 0, 3);
    Due.literal("the last PLACE", x, 3, 1, false, Q, B, F, A);
    made("with itself once", x, 3, 0, 1, 4);
    ClaimHall y = hall();
    y.turns(0);
    Due.give(y, 1000, X, Y, 1000 + S);
    Due.give(y, 1000 + Q, X, A);
    y.run(2);
    Due.step("not into the LETTER", y, 2, 4, 0, 0, 0, 1, 0, 2);
    made("by both sides into A, and into no LETTER of both", y, 2, 0, 1, 3);
  }

  /** "j is a LITERAL of n (the CHOSEN one, if it has one)" */
  private static void turnIntoChosen() {
    ClaimHall x = hall();
    x.turns(0);
    Due.give(x, 1000, B, A, 1000 + S);
    Due.give(x, 1000 + P, F, B, 2000 + P, B, 2000 + Q, B, F, A, 1000 + Q, B, B);
    Due.due("CHOSEN", x.claim(1, 4), 2);
    x.run(2);
    Due.step("into it", x, 2, 4, 0, 0, 0, 1, 2, 1);
    made("with itself once, into no other", x, 2, 0, 1, 3);
  }

  /** "and under it r is not GREATER than l" */
  private static void turnNotGreater() {
    turned("r is less", 1, Due.row(B, A), Due.row(B));
    turned("r is GREATER", 0, Due.row(B, A), Due.row(A));
    turned("none is GREATER, by both sides", 2, Due.row(F, X, F, Y), Due.row(F, B));
    turned("they are alike, by both sides", 2, Due.row(G, X, Y, G, Y, X), Due.row(G, B, B));
    turned("r is less under it, by both sides", 2, Due.row(G, X, Y, G, Y, X), Due.row(G, B, A));
    turned("r is GREATER under it, by both sides", 0, Due.row(G, X, Y, G, Y, X), Due.row(G, A, B));
    ClaimHall x = hall();
    x.turns(0);
    Due.give(x, 1000 + P, F, X, 1000 + Q, X, X);
    Due.give(x, 1000, F, X, F, F, A, 1000 + S);
    x.run(2);
    Due.step("r is heavier, but the LETTER of n stands in l alone", x, 2, 4, 1, 0, 0, 0, 0, 1);
    Due.literal("r stands there then", x, 2, 1, false, P, F, F, A);
  }

  /** From an EQUAL with these sides into P of a TERM so many STEPS are made. */
  private static void turned(String name, int want, int[] sides, int[] term) {
    ClaimHall x = hall();
    x.turns(0);
    Due.give(x, Due.row(1000), sides, Due.row(1000 + S));
    Due.give(x, Due.row(1000 + P), term);
    x.run(1);
    int withItself = x.count(7);
    x.run(1);
    Due.due(name, x.count(7) - withItself, want);
  }

  public static void main(String[] args) {
    chosen();
    clashPositive();
    clashChosen();
    clashLiterals();
    factor();
    drop();
    turnSides();
    turnOrder();
    turnPlaces();
    turnIntoChosen();
    turnNotGreater();
    Due.end("EdgeStepsTest");
  }
}
