/** Edges of promise 14 (judge): what is told of each KIND, and of REWRITINGS, when it is forged. */
public final class EdgeJudgeTest {
  private static final int LEAST = Integer.MIN_VALUE, MOST = Integer.MAX_VALUE;
  private static final int A = 1, B = 2, F = 3, P = 4, Q = 5, R = 6, S = 7, T = 8, U = 9;
  private static final int X = -1, Y = -2;

  /** FUNCTIONS A and B without PARTS, F with one; SAYINGS P and Q with one, R with two, S, T and U without. */
  private static ClaimHall hall() {
    ClaimHall x = Due.hall("f0 f0 f1 s1 s1 s2 s0 s0 s0");
    x.turns(0);
    return x;
  }

  /** With each of these for a number of its STEP the CLAIM is judged so; with the number that it had it is right. */
  private static void judged(String name, ClaimHall x, int c, int what, int want, int... numbers) {
    int was = x.step(c, what);
    Due.due(name + ": as it is", x.judge(c), 1);
    for (int v : numbers) {
      Due.due(name + ": forge", x.forge(c, what, v), 1);
      Due.due(name + ": " + what + " is " + v, x.judge(c), want);
    }
    x.forge(c, what, was);
    Due.due(name + ": as it was", x.judge(c), 1);
  }

  /** Two p and one n that make the same CLAIM 3, behind which a third such p comes. */
  private static ClaimHall clashed() {
    ClaimHall x = hall();
    Due.give(x, 1000 + P, A, 1000 + Q, A);
    Due.give(x, 1000 + P, B, 1000 + Q, A);
    Due.give(x, 2000 + P, X, 1000 + S);
    x.run(3);
    Due.step("CLASH", x, 3, 1, 0, 0, 2);
    Due.due("KEPT", x.count(1), 4);
    Due.due("one more", Due.give(x, 1000 + P, F, A, 1000 + Q, A), 4);
    return x;
  }

  /** "Whether CLAIM c is what its STEP, as it stands, makes: 1, 0."; "(what it names are CLAIMS with lesser numbers" */
  private static void clashOfLesserNumbers() {
    ClaimHall x = clashed();
    judged("another p that makes the same", x, 3, 1, 1, 1);
    judged("p makes the same, but its number is above", x, 3, 1, 0, 4);
    judged("p is the CLAIM itself, or none", x, 3, 1, 0, 3, -1, 5, 150, LEAST, MOST);
    judged("p is not POSITIVE", x, 3, 1, 0, 2);
    judged("n has no CHOSEN one", x, 3, 3, 0, 0, 1);
    judged("n is the CLAIM itself, or none", x, 3, 3, 0, 3, 4, -1, 5, 150, LEAST, MOST);
  }

  /** "(what it names are CLAIMS with lesser numbers": not the CLAIM itself, which would make itself again */
  private static void makesItself() {
    ClaimHall x = hall();
    Due.give(x, 2000 + P, X, 1000 + P, Y);
    Due.give(x, 1000 + P, A);
    x.run(2);
    Due.step("CLASH", x, 2, 1, 1, 0, 0);
    judged("p is the CLAIM itself", x, 2, 1, 0, 2);
    ClaimHall y = hall();
    Due.give(y, 1000, F, X, F, Y, 1000 + S);
    Due.give(y, 1000 + P, F, B);
    y.run(2);
    Due.step("TURN", y, 2, 4, 0, 0, 0, 1, 0, 1);
    y.forge(2, 5, 1);
    y.forge(2, 4, 2);
    Due.due("n is the CLAIM itself", y.judge(2), 0);
    ClaimHall z = hall();
    Due.give(z, 1000, F, F, X, F, X);
    Due.give(z, 1000, F, F, A, A);
    Due.rewritings("by a wider rule", z, 1, 0, 0, 0, 1);
    z.forge(1, 14, 2);
    z.forge(1, 11, 1);
    Due.due("r is the CLAIM itself", z.judge(1), 0);
  }

  /** "LITERALS, PLACES that there are" */
  private static void clashOfLiterals() {
    ClaimHall x = clashed();
    judged("i is another one, or none", x, 3, 2, 0, 1, 2, -1, 6, LEAST, MOST);
  }

  /** "PUT AWAY or not)" */
  private static void putAwayOrNot() {
    ClaimHall x = clashed();
    Due.give(x, 1000 + P, X);
    Due.due("p is PUT AWAY", x.claim(0, 2), 2);
    judged("the other p is, too", x, 3, 1, 1, 1);
    Due.give(x, 1000 + S);
    Due.due("the CLAIM itself is PUT AWAY", x.claim(3, 2), 2);
    Due.due("n is PUT AWAY", x.claim(2, 2), 2);
    Due.due("judge", x.judge(3), 1);
    Due.due("judge of what was given and is PUT AWAY", x.judge(0), 1);
  }

  /** "it is not LOST" */
  private static void notLost() {
    ClaimHall x = Pairs.hall();
    x.turns(0);
    Due.give(x, 2001, 1002, 1003, 1004, 1005);
    Due.give(x, 1001, 1002, 1003, 1004);
    Due.give(x, 2001, 1005);
    Due.due("PUT AWAY", x.claim(0, 3), 2);
    x.run(2);
    Due.step("CLASH", x, 3, 1, 1, 0, 2);
    judged("7 LITERALS, cleaned the same four", x, 3, 3, 0, 0);
    ClaimHall y = Due.hall("f2 s1 s1 s0");
    y.turns(0);
    Due.give(y, Due.row(2004), Due.letters(1003, 1, 0, 11));
    Due.give(y, Due.row(2004), Due.letters(1003, 1, 0, 10));
    Due.give(y, Due.row(1004), Due.letters(1002, 1, 0, 10));
    y.run(3);
    Due.step("CLASH", y, 3, 1, 2, 0, 1);
    judged("21 LETTERS", y, 3, 3, 0, 0);
  }

  /** "2 FACTOR (p, i, j), i less than j" */
  private static void factor() {
    ClaimHall x = hall();
    Due.give(x, 1000 + P, X, 1000 + P, Y);
    x.run(1);
    Due.step("FACTOR", x, 1, 2, 0, 0, 1);
    judged("i is j: the same would be left", x, 1, 3, 0, 0);
    judged("i is j", x, 1, 2, 0, 1);
    judged("i is none", x, 1, 2, 0, -1, 2, LEAST, MOST);
    judged("j is none", x, 1, 3, 0, -1, 2, LEAST, MOST);
    judged("p is none", x, 1, 1, 0, -1, 1, 2, LEAST, MOST);
    x.forge(1, 2, 1);
    x.forge(1, 3, 0);
    Due.due("i is above j: the same would be left", x.judge(1), 0);
  }

  /** "1 CLASH (p, i, n): p is POSITIVE"; "4 TURN (p, i, side, n, j, place): p is POSITIVE" */
  private static void notPositive() {
    ClaimHall x = hall();
    Due.give(x, 1000 + P, A, 1000 + S, 2000 + U);
    Due.give(x, 1000 + P, A, 1000 + S);
    Due.give(x, 2000 + P, X, 2000 + U);
    x.run(2);
    Due.step("CLASH", x, 3, 1, 1, 0, 2);
    judged("cleaned the same, but p is not POSITIVE", x, 3, 1, 0, 0);
    ClaimHall y = hall();
    Due.give(y, 1000, B, A, 1000 + S, 2000 + U);
    Due.give(y, 1000, B, A, 1000 + S);
    Due.give(y, 2000 + U, 2000 + P, B);
    y.run(2);
    Due.step("TURN", y, 3, 4, 1, 0, 0, 2, 1, 1);
    judged("cleaned the same, but p is not POSITIVE", y, 3, 1, 0, 0);
  }

  /** "3 DROP (n): the CHOSEN one denies EQUAL" */
  private static void drop() {
    ClaimHall x = hall();
    Due.give(x, 2000 + Q, F, F, A, 2000, X, A, 1000 + P, X);
    Due.give(x, 2000, F, X, F, A, 1000 + P, X);
    Due.give(x, 1000 + P, A, 1000 + S);
    Due.give(x, 2000, X, A, 1000 + P, X);
    x.run(1);
    Due.step("DROP", x, 4, 3, 1);
    judged("another n that makes the same", x, 4, 1, 1, 3);
    judged("EQUAL is not CHOSEN", x, 4, 1, 0, 0);
    judged("n is POSITIVE", x, 4, 1, 0, 2);
    judged("n is none", x, 4, 1, 0, -1, 4, 5, LEAST, MOST);
  }

  /**
   * "All that is told of its KIND is to be so (what it names are CLAIMS with lesser numbers, LITERALS, PLACES that
   * there are"
   */
  private static void turn() {
    ClaimHall x = hall();
    Due.give(x, 1000, B, A, 1000 + S);
    Due.give(x, 1000 + R, A, F, B, 1000 + P, A);
    x.run(2);
    Due.step("TURN", x, 2, 4, 0, 0, 0, 1, 0, 3);
    judged("p is none", x, 2, 1, 0, -1, 2, 3, LEAST, MOST);
    judged("p has no EQUAL there", x, 2, 1, 0, 1);
    judged("i is not EQUAL, or none", x, 2, 2, 0, 1, 2, -1, LEAST, MOST);
    judged("side: r would be GREATER; none", x, 2, 3, 0, 1, 2, -1, LEAST, MOST);
    judged("n is none", x, 2, 4, 0, -1, 2, 3, LEAST, MOST);
    judged("j has no such PLACE, or is none", x, 2, 5, 0, 1, 2, -1, LEAST, MOST);
    judged("place is none", x, 2, 6, 0, 0, 4, 5, -1, LEAST, MOST);
    judged("another TERM is there", x, 2, 6, 0, 1, 2);
  }

  /** "place (1 and more) a PLACE in it at which no LETTER is" */
  private static void turnIntoALetter() {
    ClaimHall x = hall();
    Due.give(x, 1000, X, Y, 1000 + S);
    Due.give(x, 1000 + R, A, X);
    Due.give(x, 1000 + R, X, X);
    x.run(2);
    Due.step("TURN", x, 3, 4, 0, 0, 0, 1, 0, 1);
    judged("it would make the same, but a LETTER is there", x, 3, 4, 0, 2);
  }

  /** "j is a LITERAL of n (the CHOSEN one, if it has one)" */
  private static void turnIntoAnother() {
    ClaimHall x = hall();
    Due.give(x, 1000, B, A, 1000 + S);
    Due.give(x, 2000 + P, A, 2000 + P, B);
    Due.give(x, 2000 + P, B);
    x.run(2);
    Due.step("TURN", x, 3, 4, 0, 0, 0, 2, 0, 1);
    x.forge(3, 4, 1);
    Due.due("into the CHOSEN one, in which B is not", x.judge(3), 0);
    x.forge(3, 5, 1);
    Due.due("cleaned the same, but that one is not CHOSEN", x.judge(3), 0);
  }

  /** "of KIND 0 it is what was given" */
  private static void given() {
    ClaimHall x = hall();
    Due.give(x, 1000 + P, Y, 2000, A, B, 1000 + P, Y, 2000, X, X, 1000 + R, X, Y);
    Due.due("behind CLEANING", x.claim(0, 0), 3);
    Due.due("judge", x.judge(0), 1);
    x.clear();
    Due.give(x, 1000 + S);
    Due.due("another one has its number now", x.judge(0), 1);
    x.clear();
    x.given();
    Due.due("no LITERALS", x.judge(0), 1);
  }

  /** "each REWRITING as it stands (r of a lesser number; PUT AWAY or not)" */
  private static void rewritingNumbers() {
    ClaimHall x = hall();
    Due.give(x, 1000 + P, A);
    Due.give(x, 1000, F, A, A);
    Due.give(x, 1000 + R, F, A, F, A);
    Due.rewritings("two", x, 2, 1, 0, 0, 1, 1, 0, 0, 2);
    Due.due("a wider rule", Due.give(x, 1000, F, X, A), 3);
    Due.due("r is PUT AWAY", x.claim(1, 3), 3);
    judged("r would do, but its number is above", x, 2, 11, 0, 3);
    judged("r is no rule, is the CLAIM itself, or none", x, 2, 11, 0, 0, 2, -1, 4, 150, LEAST, MOST);
    judged("side", x, 2, 12, 0, 1, 2, -1, LEAST, MOST);
    judged("j", x, 2, 13, 0, 1, -1, LEAST, MOST);
    judged("place", x, 2, 14, 0, 0, 2, 5, -1, LEAST, MOST);
    judged("place of the last", x, 2, 18, 0, 0, 1, 3, 4, -1, LEAST, MOST);
    x.forge(2, 14, 3);
    x.forge(2, 18, 1);
    Due.due("the last one first", x.judge(2), 1);
    x.forge(2, 18, 3);
    Due.due("the same one twice", x.judge(2), 0);
  }

  /** "each REWRITING as it stands": one that is none is not left out, though without it the same would come */
  private static void noneIsLeftOut() {
    ClaimHall x = hall();
    Due.give(x, 1000, F, A, B);
    Due.give(x, 1000, F, X, A);
    Due.give(x, 1000, B, A);
    Due.give(x, 1000 + R, F, A, X);
    Due.rewritings("to B, then to A", x, 3, 0, 0, 0, 1, 2, 0, 0, 1);
    judged("to A at once, and B is not there then", x, 3, 11, 0, 1);
    x.forge(3, 11, 1);
    int[][] none = {{15, 3, -1, 4}, {16, 1, 2, -1}, {17, 1, -1}, {18, 0, 2, 3, -1}};
    for (int[] row : none) {
      int was = x.step(3, row[0]);
      for (int k = 1; k < row.length; k++) {
        x.forge(3, row[0], row[k]);
        Due.due("a second one that is none: " + row[0] + " is " + row[k], x.judge(3), 0);
      }
      x.forge(3, row[0], was);
    }
  }

  /** "and with that for them l is GREATER than the other side", of a REWRITING that is forged */
  private static void rewritingToGreater() {
    ClaimHall x = hall();
    Due.give(x, 1000, F, A, B);
    Due.give(x, 1000, F, B, A);
    Due.give(x, 1000, B, A);
    Due.give(x, 1000 + P, F, A);
    Due.rewritings("to B, then to A", x, 3, 0, 0, 0, 1, 2, 0, 0, 1);
    x.forge(3, 11, 2);
    x.forge(3, 12, 1);
    x.forge(3, 14, 2);
    x.forge(3, 15, 1);
    Due.due("A to B, which is GREATER, then to A", x.judge(3), 0);
  }

  /** "its side (0 left, 1 right)" */
  private static void rewritingSides() {
    ClaimHall x = Due.hall("f0 f0 f2 s1");
    Due.give(x, 1000, 3, 1, -1, 3, -1, 1);
    Due.give(x, 1004, 3, 2, 1);
    Due.rewritings("by the right side", x, 1, 0, 1, 0, 1);
    judged("by the left one, or none", x, 1, 12, 0, 0, 2, 3, -1, LEAST, MOST);
  }

  /** "CLEANING behind each" */
  private static void cleanedBehindEach() {
    ClaimHall x = hall();
    Due.give(x, 1000, F, A, A);
    Due.give(x, 1000 + P, A, 1000 + P, F, A, 1000 + Q, F, A);
    Due.due("one goes", x.claim(1, 0), 2);
    Due.rewritings("LITERAL 1 goes, 2 is 1 then", x, 1, 0, 0, 1, 1, 0, 0, 1, 1);
    judged("there is no LITERAL 2 any more", x, 1, 17, 0, 2);
  }

  /** "it is not LOST": "by one behind which a LITERAL would have more than 30 PLACES the STEP is LOST" */
  private static void rewritingTooLong() {
    for (int more = 0; more < 2; more++) {
      ClaimHall x = Due.hall("f0 f3 f1:9 f1 f1 s2");
      Due.give(x, 1000, 3, 1, 2, 1, 1, 1);
      Due.give(x, 1000, 5, 1, 1);
      int[] inner = Due.chain(1006, 5, 2, 1);
      Due.due("given", Due.give(x, inner, Due.chain(4, 4, 22 + more, 3), Due.row(1)), 2);
      Due.due("PLACES", x.literal(2, 0, 1), 29 + more);
      int at = 25 + more;
      Due.rewritings("shrinks, shrinks, grows", x, 2, 1, 0, 0, 2, 1, 0, 0, 1, 0, 0, 0, at);
      x.forge(2, 15, 0);
      x.forge(2, 18, at + 1);
      x.forge(2, 19, 1);
      x.forge(2, 22, 1);
      Due.due("shrinks, grows to " + (30 + more) + ", shrinks", x.judge(2), 1 - more);
    }
  }

  /** "in the end the same LITERALS, PLACE by PLACE. BAD." */
  private static void placeByPlace() {
    ClaimHall x = hall();
    Due.give(x, 1000 + P, A, 1000 + S, 1000 + T);
    Due.give(x, 1000 + P, B, 1000 + T, 1000 + S);
    Due.give(x, 2000 + P, X, 1000 + U);
    x.run(3);
    Due.step("CLASH", x, 3, 1, 0, 0, 2);
    judged("the same in another order", x, 3, 1, 0, 1);
    ClaimHall y = hall();
    Due.give(y, 1000 + P, A, 1000 + S, 1000 + T);
    Due.give(y, 1000 + P, F, A, 1000 + S, 1000 + T, 1000 + U);
    Due.give(y, 1000 + P, B, 1000 + S);
    Due.give(y, 2000 + P, X);
    y.run(4);
    Due.step("CLASH", y, 4, 1, 0, 0, 3);
    judged("one LITERAL less, and one more", y, 4, 1, 0, 2, 1);
    ClaimHall z = hall();
    Due.give(z, 2000 + P, X, 1000 + T);
    Due.give(z, 2000 + P, X, 2000 + T);
    Due.give(z, 1000 + P, A, 1000 + S);
    z.run(3);
    Due.step("CLASH", z, 3, 1, 2, 0, 0);
    judged("denied for said", z, 3, 3, 0, 1);
    z.clear();
    Due.give(z, 2000 + P, X, 1000 + T);
    Due.give(z, 2000 + P, X, 2000 + T);
    Due.give(z, 1000 + P, A);
    z.run(3);
    Due.step("CLASH", z, 3, 1, 2, 0, 0);
    judged("denied for said, the only one", z, 3, 3, 0, 1);
    for (int c : new int[] {LEAST, -1, x.count(1), 150, MOST}) Due.refused("judge(" + c, x, () -> x.judge(c), -2);
  }

  public static void main(String[] args) {
    clashOfLesserNumbers();
    makesItself();
    clashOfLiterals();
    putAwayOrNot();
    notLost();
    factor();
    notPositive();
    drop();
    turn();
    turnIntoALetter();
    turnIntoAnother();
    given();
    rewritingNumbers();
    noneIsLeftOut();
    rewritingToGreater();
    rewritingSides();
    cleanedBehindEach();
    rewritingTooLong();
    placeByPlace();
    Due.end("EdgeJudgeTest");
  }
}
