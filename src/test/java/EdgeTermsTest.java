/** Edges of the words below the promises: WEIGHT, THE ORDER, WIDEST STANDING, MATCHES, TAKES IN, CLEANING, TRIVIAL. */
public final class EdgeTermsTest {
  private static final int NONE = -1;
  private static final int A = 1, B = 2, F = 3, H = 4, G = 5, P = 6, Q = 7, S = 8;
  private static final int X = -1, Y = -2, Z = -3, W = -4;

  /**
   * FUNCTIONS A and B without PARTS, F and H (twice as heavy) with one, G with two; SAYINGS P with one, Q with two, S
   * without.
   */
  private static ClaimHall hall() {
    return Due.hall("f0 f0 f1 f1:2 f2 s1 s2 s0");
  }

  /** Gives a CLAIM that says P of each of the TERMS, and asks how the first and the second stand, both ways. */
  private static void order(String name, int want, int[] s, int[] t) {
    ClaimHall x = hall();
    Due.give(x, Due.row(1000 + P), s, Due.row(1000 + P), t);
    int back = want == 1 || want == -1 ? -want : want;
    Due.due(name, x.order(0, 0, 0, 1), want);
    Due.due(name + ", the other way", x.order(0, 1, 0, 0), back);
    Due.due(name + ": the first and itself", x.order(0, 0, 0, 0), 2);
    Due.due(name + ": the second and itself", x.order(0, 1, 0, 1), 2);
  }

  /** "a TERM s is GREATER than t, if no LETTER stands in t more often than in s" */
  private static void orderLetters() {
    order("once in both", 1, Due.row(F, F, F, X), Due.row(G, X, A));
    order("in the lighter one once more", 0, Due.row(F, F, F, X), Due.row(G, X, X));
    order("in the heavier one once more", 1, Due.row(G, X, F, X), Due.row(F, F, X));
    order("another LETTER", 0, Due.row(F, F, X), Due.row(F, Y));
    order("another LETTER, but the first, too", 1, Due.row(G, X, Y), Due.row(F, Y));
    order("a LETTER in the heavier one alone", 1, Due.row(F, F, X), Due.row(F, A));
    order("a LETTER in the lighter one alone", 0, Due.row(F, F, A), Due.row(F, X));
    order("as heavy, a LETTER more in the one with the lower number", 0, Due.row(F, F, X), Due.row(G, A, A));
    order("as heavy, a LETTER more in the one with the higher number", -1, Due.row(F, F, X), Due.row(G, X, X));
  }

  /** "and s is heavier, or as heavy" */
  private static void orderWeight() {
    order("heavier by 1, the number is lower", 1, Due.row(F, F, F, A), Due.row(H, A));
    order("as heavy, the number is lower", -1, Due.row(F, F, A), Due.row(H, A));
    order("lighter by 1, the number is higher", -1, Due.row(H, A), Due.row(G, A, F, A));
    order("longer, but lighter", -1, Due.row(F, F, F, A), Due.row(H, H, A));
  }

  /** "s is no LETTER, t is none" */
  private static void orderLetterAlone() {
    order("a LETTER and a FUNCTION as heavy", 0, Due.row(X), Due.row(B));
    order("two LETTERS", 0, Due.row(X), Due.row(Y));
    order("a LETTER in the heavier one", 1, Due.row(F, X), Due.row(X));
    order("a LETTER that is not in the heavier one", 0, Due.row(F, X), Due.row(Y));
  }

  /**
   * "and the number of the FUNCTION of s is above that of t; or it is the same one, and of the first PARTS that are
   * unlike that of s is GREATER."
   */
  private static void orderNumberAndParts() {
    order("the number above", 1, Due.row(B), Due.row(A));
    order("the first PARTS are unlike", -1, Due.row(G, A, B), Due.row(G, B, A));
    order("the second PARTS are", 1, Due.row(G, A, B), Due.row(G, A, A));
    order("PARTS of PARTS", 1, Due.row(G, F, B, A), Due.row(G, F, A, B));
    order("none of the first PARTS that are unlike is GREATER", 0, Due.row(G, X, Y), Due.row(G, Y, X));
    order("nor here, though the second PARTS would be", 0, Due.row(G, X, G, Y, B), Due.row(G, Y, G, X, A));
    order("a LETTER in the PART that is GREATER", 1, Due.row(G, F, X, X), Due.row(G, X, F, X));
    order("the LETTER is in another PART", 0, Due.row(G, F, X, Y), Due.row(G, Y, F, X));
    order("heavier: PARTS do not matter", 1, Due.row(G, A, F, A), Due.row(G, B, B));
  }

  /** Promise 16: "(of d with its LETTERS as they are)" */
  private static void orderOfTwoClaims() {
    ClaimHall x = hall();
    Due.give(x, 1000 + P, F, X);
    Due.give(x, 1000 + Q, X, Y, 1000 + Q, Y, X);
    Due.due("LETTER 0 is LETTER 0", x.order(0, 0, 1, 0), 1);
    Due.due("LETTER 1 is not", x.order(0, 0, 1, 1), 0);
    Due.due("the other way", x.order(1, 0, 0, 0), -1);
  }

  /** "WEIGHT of any: that of all its PLACES together, a LETTER weighing 1 (a denial is as heavy as what it denies)." */
  private static void weight() {
    ClaimHall x = Due.hall("f0:9 f3:9 s3:9 s0:3");
    Due.give(x, 1003, 2, 1, 1, -1, 2, 1, 1, 1, -1);
    Due.due("all PLACES", x.claim(0, 1), 9 + 9 + 18 + 1 + 9 + 27 + 1);
    Due.give(x, 1004);
    Due.give(x, 2004);
    Due.due("said", x.claim(1, 1), 3);
    Due.due("denied", x.claim(2, 1), 3);
    x.clear();
    x.given();
    Due.due("no LITERALS", x.claim(0, 1), 0);
  }

  /** Q of two PARTS said, and Q denied: PROVED, if they have a WIDEST STANDING. */
  private static void standing(String name, boolean there, int[] first, int[] second) {
    ClaimHall x = hall();
    Due.give(x, Due.row(1000 + Q), first);
    Due.give(x, Due.row(2000 + Q), second);
    Due.due(name, x.run(3), there ? 1 : 2);
    Due.due(name + ": STEPS", x.count(7), there ? 1 : 0);
  }

  /**
   * "where both are alike, on; where one is a LETTER (the one of the first, if both are), what stands at the other
   * one's PLACE stands for it from then on, in all"
   */
  private static void standings() {
    standing("alike", true, Due.row(A, F, B), Due.row(A, F, B));
    standing("unlike at the last PLACE", false, Due.row(A, F, B), Due.row(A, F, A));
    standing("unlike at the first", false, Due.row(A, X), Due.row(B, X));
    standing("a LETTER of the first", true, Due.row(X, A), Due.row(G, A, B, A));
    standing("a LETTER of the second", true, Due.row(G, A, B, A), Due.row(X, A));
    standing("LETTERS of both", true, Due.row(X, A), Due.row(B, X));
    standing("both are LETTERS", true, Due.row(X, Y), Due.row(X, X));
    standing("from then on: the same", true, Due.row(X, X), Due.row(A, Y));
    standing("from then on: another", false, Due.row(X, X), Due.row(A, B));
    standing("in all", true, Due.row(G, X, Y, G, Y, X), Due.row(G, A, Z, G, B, W));
    standing("in all, at the last PLACE", false, Due.row(G, X, Y, G, Y, X), Due.row(G, A, B, G, B, B));
    standing("what stands for it has LETTERS", true, Due.row(X, X), Due.row(G, A, Y, G, Z, B));
    standing("what stands for it is another TERM", false, Due.row(X, X), Due.row(G, A, Y, G, B, Z));
    standing("what stands for it is another FUNCTION", false, Due.row(X, X), Due.row(F, Y, H, Z));
    standing("on behind it", true, Due.row(G, X, X, A), Due.row(G, F, Y, F, Z, A));
    standing("on behind it, to what is unlike", false, Due.row(G, X, X, A), Due.row(G, F, Y, F, Z, B));
    standing("of the second: what stands for it has LETTERS", true, Due.row(G, A, Y, G, Z, B), Due.row(X, X));
    standing("of the second: on behind it", true, Due.row(G, F, Y, F, Z, A), Due.row(G, X, X, A));
    standing("of the second: to what is unlike", false, Due.row(G, F, Y, F, Z, A), Due.row(G, X, X, B));
    standing("both stand for something", true, Due.row(G, X, Y, G, Y, X), Due.row(G, F, Z, F, W, G, F, A, F, B));
    standing("both do, and differ", false, Due.row(G, X, Y, G, Y, X), Due.row(G, F, Z, F, Z, G, F, A, F, B));
  }

  /** "(none, if that LETTER is in it)" */
  private static void letterIsInIt() {
    standing("in it at once", false, Due.row(X, F, X), Due.row(Y, Y));
    standing("the other way", false, Due.row(X, X), Due.row(Y, F, Y));
    standing("in it by another LETTER", false, Due.row(G, X, Y, G, F, Y, F, X), Due.row(G, Z, W, G, Z, W));
    standing("it is the LETTER itself", true, Due.row(X, X), Due.row(Y, Y));
    standing("like TERMS with it", true, Due.row(X, F, X), Due.row(Y, F, Y));
  }

  /** "Two CLAIMS that are taken together have no LETTER in common: those of the second are other ones (20 more)." */
  private static void noLetterInCommon() {
    standing("LETTER 0 of both", true, Due.row(X, A), Due.row(F, X, A));
    standing("LETTERS 0 and 1 of both", true, Due.row(F, X, F, Y), Due.row(Y, X));
    int[] twenty = {1, -1, -2, 1, -3, -4, 1, -5, -6, 1, -7, -8, 1, -9, -10, 1, -11, -12, 1, -13, -14, 1, -15, -16, 1,
        -17, -18, -19, -20};
    for (int head = 1000; head <= 2000; head += 1000) {
      ClaimHall x = Due.hall("f3 f1 s2");
      Due.give(x, Due.row(head + 3), twenty);
      Due.due("20 LETTERS in 30 PLACES", x.claim(0, 5), 20);
      Due.give(x, 3003 - head, -1, 2, -1);
      Due.due("LETTERS 0 and 19 of the one, 0 of the other", x.run(2), 1);
    }
  }

  /** c TAKES IN d, which was there first and is PUT AWAY by it. */
  private static void takes(String name, int[] c, int[] d) {
    ClaimHall x = hall();
    Due.due(name + ": d", Due.give(x, d), 0);
    Due.due(name + ": c", Due.give(x, c), 1);
    Due.due(name, x.takesIn(1, 0), 1);
    Due.due(name + ": PUT AWAY", x.claim(0, 2), 2);
    Due.due(name + ": by", x.claim(0, 3), 1);
    x.clear();
    Due.due(name + ": c ahead", Due.give(x, c), 0);
    Due.due(name + ": d is PUT AWAY at once, but not where the END is 1", Due.give(x, d), c.length == 0 ? -3 : NONE);
  }

  /** c does not TAKE IN d, which comes behind it and is there. */
  private static void leaves(String name, int[] c, int[] d) {
    ClaimHall x = hall();
    Due.due(name + ": c", Due.give(x, c), 0);
    Due.due(name + ": d", Due.give(x, d), 1);
    Due.due(name, x.takesIn(0, 1), 0);
    Due.due(name + ": there", x.claim(1, 2), 0);
    Due.due(name + ": by none", x.claim(1, 3), NONE);
  }

  /** "s MATCHES t, if something stands for the LETTERS of s so that it becomes t (LETTERS of t stay)." */
  private static void matches() {
    takes("a LETTER for a TERM", Due.row(1000 + P, X), Due.row(1000 + P, F, A));
    takes("a LETTER for a LETTER", Due.row(1000 + Q, X, Y), Due.row(1000 + Q, X, X));
    leaves("LETTERS of t stay", Due.row(1000 + Q, X, X), Due.row(1000 + Q, X, Y));
    leaves("a TERM for a LETTER", Due.row(1000 + P, A), Due.row(1000 + P, X));
    takes("the same TERM twice", Due.row(1000 + Q, X, X), Due.row(1000 + Q, F, A, F, A));
    leaves("two TERMS", Due.row(1000 + Q, X, X), Due.row(1000 + Q, F, A, F, B));
    takes("its own LETTER is in it", Due.row(1000 + Q, X, F, X), Due.row(1000 + Q, F, X, F, F, X));
  }

  /** "c TAKES IN d: c has no more LITERALS" */
  private static void noMoreLiterals() {
    leaves("two and one", Due.row(1000 + P, X, 1000 + P, Y), Due.row(1000 + P, A));
    takes("two and two", Due.row(1000 + P, X, 1000 + P, Y), Due.row(1000 + P, A, 1000 + S));
    takes("six and six", Due.row(1000 + P, X, 1000 + P, Y, 1000 + P, Z, 1000 + P, W, 1000 + P, -5, 1000 + S),
        Due.row(1000 + P, A, 1000 + P, B, 1000 + Q, A, A, 1000 + Q, A, B, 1000 + Q, B, A, 1000 + S));
    takes("none and one", Due.row(), Due.row(1000 + S));
  }

  /**
   * "and something stands for the LETTERS of c so that each of its LITERALS is one of d (said or denied alike, all
   * PLACES)"
   */
  private static void eachLiteral() {
    leaves("denied and said", Due.row(2000 + P, X), Due.row(1000 + P, A));
    leaves("said and denied", Due.row(1000 + P, X), Due.row(2000 + P, A));
    takes("both denied", Due.row(2000 + P, X), Due.row(2000 + P, A));
    leaves("one of its two is not there", Due.row(1000 + S, 1000 + P, B),
        Due.row(1000 + S, 1000 + P, A, 1000 + P, F, B));
    leaves("the same stands in both", Due.row(1000 + P, X, 2000 + Q, X, X), Due.row(1000 + P, A, 2000 + Q, B, B));
    takes("a try that fails at its last PLACE is taken back", Due.row(1000 + Q, X, A),
        Due.row(1000 + Q, B, B, 1000 + Q, F, B, A));
    takes("the second try stands", Due.row(1000 + P, X, 2000 + Q, X, X),
        Due.row(1000 + P, A, 1000 + P, B, 2000 + Q, B, B));
    leaves("sides are not exchanged for it", Due.row(1000, F, X, G, Y, Z), Due.row(1000, G, A, A, F, B));
  }

  /** "else it is there, with the next number (KEPT), and what it TAKES IN is PUT AWAY, by it." */
  private static void putAwayOnce() {
    ClaimHall x = hall();
    Due.give(x, 1000 + P, F, F, A);
    Due.give(x, 1000 + P, F, X);
    Due.due("by the first", x.claim(0, 3), 1);
    Due.give(x, 1000 + P, X);
    Due.due("it was PUT AWAY already", x.claim(0, 3), 1);
    Due.due("by the second", x.claim(1, 3), 2);
    Due.due("not by itself", x.claim(2, 3), NONE);
    Due.due("takesIn() asks of what is PUT AWAY, too", x.takesIn(0, 0), 1);
    Due.due("takesIn() asks of what is PUT AWAY, too", x.takesIn(2, 0), 1);
  }

  /** "of EQUAL with a right side that is GREATER the sides are exchanged" */
  private static void sidesExchanged() {
    ClaimHall x = hall();
    Due.give(x, 2000, A, B);
    Due.literal("GREATER", x, 0, 0, true, 0, B, A);
    x.clear();
    Due.give(x, 2000, B, A);
    Due.literal("the left one is", x, 0, 0, true, 0, B, A);
    x.clear();
    Due.give(x, 1000, A, X);
    Due.literal("none is", x, 0, 0, false, 0, A, -1);
    x.clear();
    Due.give(x, 1000, G, X, Y, G, Y, X);
    Due.literal("as heavy, none is", x, 0, 0, false, 0, G, -1, -2, G, -2, -1);
    x.clear();
    Due.give(x, 1000 + Q, A, B);
    Due.literal("not EQUAL", x, 0, 0, false, Q, A, B);
  }

  /** "a denied EQUAL with like sides goes" */
  private static void likeSidesGo() {
    ClaimHall x = hall();
    Due.due("given", Due.give(x, 2000, F, X, F, X, 1000 + S), 0);
    Due.due("it goes", x.claim(0, 0), 1);
    Due.literal("the other one stays", x, 0, 0, false, S);
    Due.due("said", Due.give(x, 1000 + P, A, 1000, F, X, F, X), NONE);
    x.clear();
    Due.give(x, 2000, F, X, F, Y);
    Due.due("unlike in the last PLACE", x.claim(0, 0), 1);
    x.clear();
    Due.give(x, 2000 + Q, A, A);
    Due.due("not EQUAL", x.claim(0, 0), 1);
    x.clear();
    Due.due("all go", Due.give(x, 2000, X, X, 2000, A, A), 0);
    Due.due("none is left", x.claim(0, 0), 0);
    Due.due("PROVED", x.count(10), 1);
  }

  /** "one that is like one that stayed ahead of it (said or denied alike, all PLACES) goes." */
  private static void likeOnesGo() {
    ClaimHall x = hall();
    Due.give(x, 1000 + P, A, 1000 + S, 1000 + P, A, 1000 + S, 1000 + P, B);
    Due.due("three stay", x.claim(0, 0), 3);
    Due.literal("first", x, 0, 0, false, P, A);
    Due.literal("second", x, 0, 1, false, S);
    Due.literal("third", x, 0, 2, false, P, B);
    x.clear();
    Due.give(x, 2000 + P, X, 2000 + P, X, 2000 + P, Y);
    Due.due("another LETTER is unlike", x.claim(0, 0), 2);
    x.clear();
    Due.give(x, 1000, A, B, 1000, B, A, 1000, A, B);
    Due.due("like behind the exchange", x.claim(0, 0), 1);
    x.clear();
    Due.give(x, 1000 + S, 1000 + S, 1000 + S, 1000 + S, 1000 + S, 1000 + S);
    Due.due("of six alike one stays", x.claim(0, 0), 1);
  }

  /** "Then LETTERS are numbered from 0, as they come." */
  private static void lettersNumbered() {
    ClaimHall x = hall();
    Due.give(x, 2000, -5, -5, 1000 + Q, -20, -9, 1000 + Q, -5, -20);
    Due.literal("what goes has none", x, 0, 0, false, Q, -1, -2);
    Due.literal("it comes behind them", x, 0, 1, false, Q, -3, -1);
    Due.due("LETTERS", x.claim(0, 5), 3);
    x.clear();
    Due.give(x, 1000, -2, G, -1, -2);
    Due.literal("behind the exchange", x, 0, 0, false, 0, G, -1, -2, -2);
  }

  /** "It is TRIVIAL, if a said EQUAL has like sides, or one LITERAL is said, another denied, with like PLACES." */
  private static void trivial() {
    ClaimHall x = hall();
    Due.due("like sides", Due.give(x, 1000, F, X, F, X), NONE);
    Due.due("like sides, the last of six",
        Due.give(x, 1000 + S, 1000 + P, A, 1000 + P, B, 2000 + P, X, 1000 + P, Y, 1000, X, X), NONE);
    Due.due("said, then denied", Due.give(x, 1000 + P, A, 2000 + P, A), NONE);
    Due.due("denied, then said", Due.give(x, 2000 + P, X, 1000 + S, 1000 + P, X), NONE);
    Due.due("EQUAL behind the exchange", Due.give(x, 1000, A, B, 2000, B, A), NONE);
    Due.due("counted", x.count(5), 5);
    Due.due("unlike in the last PLACE", Due.give(x, 1000 + Q, A, X, 2000 + Q, A, Y), 0);
    Due.due("another SAYING", Due.give(x, 1000 + P, A, 2000 + Q, A, A), 1);
    Due.due("sides that are not like", Due.give(x, 1000, F, X, H, X, 1000 + S), 2);
  }

  public static void main(String[] args) {
    orderLetters();
    orderWeight();
    orderLetterAlone();
    orderNumberAndParts();
    orderOfTwoClaims();
    weight();
    standings();
    letterIsInIt();
    noLetterInCommon();
    matches();
    noMoreLiterals();
    eachLiteral();
    putAwayOnce();
    sidesExchanged();
    likeSidesGo();
    likeOnesGo();
    lettersNumbered();
    trivial();
    Due.end("EdgeTermsTest");
  }
}
