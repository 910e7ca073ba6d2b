/** Edges of part 3: REWRITING, and a STEP's END. */
public final class EdgeRewritingTest {
  private static final int NONE = -1;
  private static final int A = 1, B = 2, F = 3, H = 4, G = 5, P = 6, Q = 7, S = 8;
  private static final int X = -1, Y = -2;

  /** FUNCTIONS A and B without PARTS, F and H with one, G with two; SAYINGS P with one, Q with two, S without. */
  private static ClaimHall hall() {
    return Due.hall("f0 f0 f1 f1 f2 s1 s2 s0");
  }

  /** Gives rules, which are KEPT as they stand. */
  private static ClaimHall rules(int[]... rules) {
    ClaimHall x = hall();
    for (int r = 0; r < rules.length; r++) {
      Due.due("rule " + r, Due.give(x, rules[r]), r);
      Due.due("rule " + r + " is not rewritten", x.step(r, 10), 0);
    }
    return x;
  }

  /** P of a TERM becomes P of another one by so many REWRITINGS. */
  private static void becomes(String name, ClaimHall x, int[] term, int[] want, int... rewritings) {
    int c = x.count(1);
    Due.due(name, Due.give(x, Due.row(1000 + P), term), c);
    int[] places = new int[want.length + 1];
    places[0] = P;
    System.arraycopy(want, 0, places, 1, want.length);
    Due.literal(name, x, c, 0, false, places);
    Due.rewritings(name, x, c, rewritings);
    Due.due(name + ": judge", x.judge(c), 1);
  }

  /** "r is a CLAIM that is there" */
  private static void ruleIsThere() {
    ClaimHall x = rules(Due.row(1000, F, A, A), Due.row(1000, F, X, A));
    Due.due("the first is PUT AWAY", x.claim(0, 2), 2);
    becomes("by the second", x, Due.row(F, A), Due.row(A), 1, 0, 0, 1);
    ClaimHall y = rules(Due.row(1000, F, A, A));
    becomes("by one that WAITS", y, Due.row(F, A), Due.row(A), 0, 0, 0, 1);
    y.clear();
    Due.give(y, 1000, F, A, A);
    y.run(1);
    Due.due("ACTIVE", y.claim(0, 2), 1);
    becomes("by one that is ACTIVE", y, Due.row(F, A), Due.row(A), 0, 0, 0, 1);
    y.clear();
    becomes("by none behind clear()", y, Due.row(F, A), Due.row(F, A));
  }

  /** "of one LITERAL, a said EQUAL" */
  private static void ruleOfOneLiteral() {
    becomes("of two LITERALS", rules(Due.row(1000, F, A, A, 1000 + S)), Due.row(F, A), Due.row(F, A));
    becomes("a denied EQUAL", rules(Due.row(2000, F, A, A)), Due.row(F, A), Due.row(F, A));
    becomes("another SAYING", rules(Due.row(1000 + Q, F, A, A)), Due.row(F, A), Due.row(F, A));
    ClaimHall one = rules(Due.row(1000, F, A, A, 2000, B, B));
    becomes("of two, of which one goes", one, Due.row(F, A), Due.row(A), 0, 0, 0, 1);
  }

  /** "its side (0 left, 1 right) l MATCHES the TERM at a PLACE (1 and more, no LETTER) of LITERAL j" */
  private static void placeOfATerm() {
    becomes("PLACE 1, any TERM", rules(Due.row(1000, X, A)), Due.row(F, Y), Due.row(A), 0, 0, 0, 1);
    becomes("a LETTER stays", rules(Due.row(1000, X, A)), Due.row(X), Due.row(-1));
    becomes("the last PLACE", rules(Due.row(1000, B, A)), Due.row(G, A, F, B), Due.row(G, A, F, A), 0, 0, 0, 4);
    becomes("it does not MATCH a LETTER in the TERM", rules(Due.row(1000, F, A, A)), Due.row(F, X), Due.row(F, -1));
    ClaimHall twice = rules(Due.row(1000, F, X, X));
    int[] term = {G, F, A, F, B};
    becomes("another TERM for its LETTER each time", twice, term, Due.row(G, A, B), 0, 0, 0, 2, 0, 0, 0, 3);
    becomes("side 1", rules(Due.row(1000, G, A, X, G, X, A)), Due.row(G, B, A), Due.row(G, A, B), 0, 1, 0, 1);
  }

  /** "each LETTER of the other side stands in l" */
  private static void lettersOfTheOtherSide() {
    becomes("it does", rules(Due.row(1000, G, X, Y, F, X)), Due.row(G, A, B), Due.row(F, A), 0, 0, 0, 1);
    becomes("by side 1 it does not", rules(Due.row(1000, G, X, Y, F, X)), Due.row(F, A), Due.row(F, A));
    becomes("by none it does", rules(Due.row(1000, F, X, Y)), Due.row(F, A), Due.row(F, A));
    becomes("there is none", rules(Due.row(1000, F, X, A)), Due.row(F, B), Due.row(A), 0, 0, 0, 1);
  }

  /** "and with that for them l is GREATER than the other side: that stands there then." */
  private static void greaterThanTheOtherSide() {
    int[] rule = {1000, G, X, Y, G, Y, X};
    becomes("GREATER", rules(rule), Due.row(G, B, A), Due.row(G, A, B), 0, 0, 0, 1);
    becomes("less", rules(rule), Due.row(G, A, B), Due.row(G, A, B));
    becomes("alike", rules(rule), Due.row(G, A, A), Due.row(G, A, A));
    becomes("none of these", rules(rule), Due.row(G, X, Y), Due.row(G, -1, -2));
    becomes("as heavy, GREATER by number", rules(Due.row(1000, X, A)), Due.row(B), Due.row(A), 0, 0, 0, 1);
    becomes("as heavy, less by number", rules(Due.row(1000, X, B)), Due.row(A), Due.row(A));
  }

  /** "then REWRITING, the first there is, by j, PLACES, r, sides, and CLEANING; again" */
  private static void firstThereIs() {
    ClaimHall x = rules(Due.row(1000, F, A, A), Due.row(1000, H, A, A));
    Due.due("by j, then PLACES, then r", Due.give(x, 1000 + Q, H, A, F, A, 2000 + P, F, A), 2);
    Due.rewritings("by j, then PLACES, then r", x, 2, 1, 0, 0, 1, 0, 0, 0, 2, 0, 0, 1, 1);
    int[] narrow = {1000, F, A, B};
    int[] wide = {1000, F, X, A};
    becomes("by r", rules(narrow, wide), Due.row(F, A), Due.row(B), 0, 0, 0, 1);
    becomes("PLACES ahead of r", rules(narrow, wide), Due.row(F, F, A), Due.row(A), 1, 0, 0, 1);
    becomes("by sides", rules(Due.row(1000, G, X, Y, G, Y, X)), Due.row(G, B, A), Due.row(G, A, B), 0, 0, 0, 1);
  }

  /** "and CLEANING; again" */
  private static void cleanedBehindEach() {
    ClaimHall x = rules(Due.row(1000, F, A, A));
    Due.due("like one ahead", Due.give(x, 1000 + S, 1000 + P, A, 1000 + P, F, A), 1);
    Due.due("it goes", x.claim(1, 0), 2);
    Due.due("sides are exchanged", Due.give(x, 1000, F, A, B, 1000 + Q, A, A), 2);
    Due.literal("sides are exchanged", x, 2, 0, false, 0, B, A);
    Due.due("a denied EQUAL with like sides goes", Due.give(x, 2000, F, A, A), 3);
    Due.due("LITERALS", x.claim(3, 0), 0);
    Due.due("PROVED", x.count(10), 1);
  }

  /** "Then LETTERS are numbered from 0, as they come.", behind REWRITING, too */
  private static void numberedBehindEach() {
    ClaimHall x = rules(Due.row(1000, G, X, Y, Y));
    Due.due("the first LETTER goes", Due.give(x, 1000 + Q, G, X, Y, F, X), 1);
    Due.literal("numbered anew", x, 1, 0, false, Q, -1, F, -2);
    Due.give(x, 1000 + P, G, X, A);
    Due.due("no LETTER is left", x.claim(2, 5), 0);
  }

  /** "till there is none, or 8 were done" */
  private static void eightAtMost() {
    for (int many = 7; many <= 9; many++) {
      ClaimHall x = rules(Due.row(1000, F, A, A));
      Due.due("given", Due.give(x, Due.chain(1000 + P, F, many, A)), 1);
      Due.due("of " + many, x.step(1, 10), Math.min(many, 8));
      Due.due("done", x.count(8), Math.min(many, 8));
      Due.due("PLACES left", x.literal(1, 0, 1), many == 9 ? 3 : 2);
      Due.due("judge", x.judge(1), 1);
      Due.due("the place of the last", x.step(1, many == 7 ? 38 : 42), many == 9 ? 2 : 1);
      Due.due("behind it", x.step(1, 43), Integer.MIN_VALUE);
    }
  }

  /**
   * FUNCTIONS 1 without PARTS, 2 with three, 3 with one (heavy), 4 and 5 with one; SAYINGS 6 and 7 with one, 8 without.
   */
  private static ClaimHall growing() {
    ClaimHall x = Due.hall("f0 f3 f1:9 f1 f1 s1 s1 s0");
    Due.due("grows by 2", Due.give(x, 1000, 3, 1, 2, 1, 1, 1), 0);
    Due.due("shrinks by 1", Due.give(x, 1000, 5, 1, 1), 1);
    return x;
  }

  /** "(by one behind which a LITERAL would have more than 30 PLACES the STEP is LOST; that one is not done)" */
  private static void tooLongBehindOne() {
    for (int more = 0; more < 2; more++) {
      ClaimHall x = growing();
      int got = Due.give(x, Due.chain(1006, 5, 3, 1), Due.chain(1007, 4, 25 + more, 3), Due.row(1));
      Due.due((30 + more) + " PLACES", got, more == 0 ? 2 : -99);
      Due.due("LOST", x.count(6), more);
      Due.due("REWRITINGS done, of LOST ones, too", x.count(8), 4 - more);
      Due.due("KEPT", x.count(1), 3 - more);
    }
  }

  /** "till there is none, or 8 were done": a ninth behind which there would be more than 30 PLACES does not matter */
  private static void ninthIsNotTried() {
    for (int many = 7; many <= 8; many++) {
      ClaimHall x = growing();
      int got = Due.give(x, Due.chain(1006, 5, many, 1), Due.chain(1007, 4, 26, 3), Due.row(1));
      Due.due("behind " + many, got, many == 8 ? 2 : -99);
      Due.due("LOST", x.count(6), 8 - many);
      Due.due("done", x.count(8), many);
    }
  }

  /** "by one behind which a LITERAL would have more than 30 PLACES the STEP is LOST", of a STEP that FUEL counts */
  private static void tooLongInAPick() {
    ClaimHall x = Due.hall("f0 f3 f1:9 f1 s1 s0");
    Due.due("ahead of the rule", Due.give(x, Due.row(2006), Due.chain(1005, 4, 26, 3), Due.row(1)), 0);
    Due.due("rule", Due.give(x, 1000, 3, 1, 2, 1, 1, 1), 1);
    Due.due("p", Due.give(x, 1006), 2);
    Due.due("run", x.run(3), 0);
    Due.counts("the rule with itself is TRIVIAL, the CLASH is LOST", x, 7, 3, 0, 3, 0, 1, 1, 2, 0);
  }

  /** "Then it is PUT AWAY at once, if it is TRIVIAL" */
  private static void trivialInTheEnd() {
    ClaimHall x = rules(Due.row(1000, F, A, A));
    Due.due("like sides in the end", Due.give(x, 1000, F, F, A, A), NONE);
    Due.due("said and denied in the end", Due.give(x, 1000 + P, F, A, 2000 + P, A), NONE);
    Due.due("PUT AWAY at once", x.count(5), 2);
    Due.due("REWRITINGS done", x.count(8), 3);
    Due.due("KEPT", x.count(1), 1);
  }

  /**
   * "or a CLAIM that is there TAKES IT IN; else it is there, with the next number (KEPT), and what it TAKES IN is PUT
   * AWAY, by it."
   */
  private static void takenInInTheEnd() {
    ClaimHall x = rules(Due.row(1000, F, A, A), Due.row(1000 + P, A));
    Due.due("taken in in the end", Due.give(x, 1000 + P, F, A), NONE);
    Due.due("PUT AWAY at once", x.count(5), 1);
    Due.due("the next number", Due.give(x, 1000 + S, 1000 + P, B), 2);
    Due.due("the next number", Due.give(x, 1000 + P, X), 3);
    Due.due("PUT AWAY by it", x.claim(1, 3), 3);
    Due.due("PUT AWAY by it", x.claim(2, 3), 3);
    Due.due("not this one", x.claim(0, 3), NONE);
    Due.counts("counted", x, 9, 4, 2, 0, 2, 1, 0, 0, 1);
  }

  public static void main(String[] args) {
    ruleIsThere();
    ruleOfOneLiteral();
    placeOfATerm();
    lettersOfTheOtherSide();
    greaterThanTheOtherSide();
    firstThereIs();
    cleanedBehindEach();
    numberedBehindEach();
    eightAtMost();
    tooLongBehindOne();
    ninthIsNotTried();
    tooLongInAPick();
    trivialInTheEnd();
    takenInInTheEnd();
    Due.end("EdgeRewritingTest");
  }
}
