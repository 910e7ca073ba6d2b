import java.math.BigInteger;

/** Edges of promises 10 to 13 and 15 to 19: claim, literal, step, forge, proof, order, takesIn, count, digest. */
public final class EdgeAsksTest {
  private static final int NONE = -1, BAD = -2, STATE = -3, FULL = -4;
  private static final int LEAST = Integer.MIN_VALUE, MOST = Integer.MAX_VALUE;
  private static final int A = 1, B = 2, F = 3, P = 4, Q = 5, S = 6;
  private static final int X = -1, Y = -2;

  /** FUNCTIONS A and B without PARTS, F with one; SAYINGS P with one, Q with two, S without. */
  private static ClaimHall hall() {
    return Due.hall("f0 f0 f1 s1 s2 s0");
  }

  /** One CLAIM that is ACTIVE, one that WAITS, one that is PUT AWAY by that. */
  private static ClaimHall three() {
    ClaimHall x = hall();
    Due.give(x, 1000 + S);
    x.run(1);
    Due.give(x, 1000 + P, A, 2000 + Q, X, F, Y, 2000 + Q, X, F, B, 1000 + P, Y);
    Due.give(x, 1000 + P, X);
    return x;
  }

  /** Numbers of which none is that of a CLAIM, LITERAL or SIGN, where there are so many. */
  private static int[] outside(int many) {
    return new int[] {LEAST, -1, many, many + 1, 150, MOST};
  }

  /** "public static final int NONE = -1, BAD = -2, STATE = -3, FULL = -4;" */
  private static void constants() {
    Due.due("NONE", ClaimHall.NONE, NONE);
    Due.due("BAD", ClaimHall.BAD, BAD);
    Due.due("STATE", ClaimHall.STATE, STATE);
    Due.due("FULL", ClaimHall.FULL, FULL);
  }

  /**
   * Promise 10: "Of CLAIM c (KEPT): 0 LITERALS, 1 its WEIGHT, 2 whether it WAITS (0), is ACTIVE (1), or PUT AWAY (2), 3
   * by which it was (NONE), 4 its CHOSEN LITERAL (NONE), 5 how many LETTERS it has. BAD."
   */
  private static void claim() {
    ClaimHall x = three();
    int[][] all = {{1, 1, 1, NONE, NONE, 0}, {4, 2 + 4 + 4 + 2, 2, 2, 1, 2}, {1, 2, 0, NONE, NONE, 1}};
    for (int c = 0; c < 3; c++) {
      for (int what = 0; what <= 5; what++) Due.due("claim(" + c + ", " + what + ")", x.claim(c, what), all[c][what]);
    }
    for (int what : new int[] {LEAST, -1, 6, MOST}) Due.refused("claim, " + what, x, () -> x.claim(1, what), BAD);
    for (int c : outside(3)) Due.refused("claim(" + c, x, () -> x.claim(c, 0), BAD);
    ClaimHall none = hall();
    Due.refused("no CLAIMS", none, () -> none.claim(0, 0), BAD);
  }

  /**
   * Promise 11: "Of LITERAL i of CLAIM c: 0 whether it is denied (1, 0), 1 how many PLACES, 2 + k PLACE k. BAD: the
   * least int."
   */
  private static void literal() {
    ClaimHall x = hall();
    Due.give(x, Due.row(1000 + S), Due.chain(2000 + P, F, 28, A));
    Due.literal("the shortest", x, 0, 0, false, S);
    Due.due("behind its only PLACE", x.literal(0, 0, 3), LEAST);
    Due.due("denied", x.literal(0, 1, 0), 1);
    Due.due("the longest", x.literal(0, 1, 1), 30);
    Due.due("PLACE 0", x.literal(0, 1, 2), P);
    Due.due("PLACE 29", x.literal(0, 1, 31), A);
    for (int what : new int[] {LEAST, -1, 32, 33, MOST}) {
      Due.refused("literal, " + what, x, () -> x.literal(0, 1, what), LEAST);
    }
    for (int i : outside(2)) Due.refused("LITERAL " + i, x, () -> x.literal(0, i, 0), LEAST);
    for (int c : outside(1)) Due.refused("CLAIM " + c, x, () -> x.literal(c, 0, 0), LEAST);
    x.clear();
    x.given();
    for (int i : outside(0)) Due.refused("no LITERALS, " + i, x, () -> x.literal(0, i, 0), LEAST);
  }

  /** The numbers of a STEP and of its REWRITINGS: which there are, and which may be forged. */
  private static void numbers(String name, ClaimHall x, int c, int has, int rewritings) {
    int last = 10 + 4 * rewritings;
    Due.due(name + ": REWRITINGS", x.step(c, 10), rewritings);
    for (int what = has + 1; what <= 6; what++) Due.due(name + " has no " + what, x.step(c, what), 0);
    for (int what : new int[] {LEAST, -1, 7, 8, 9, last + 1, last + 2, 43, MOST}) {
      Due.refused(name + ": step, " + what, x, () -> x.step(c, what), LEAST);
    }
    for (int what : new int[] {LEAST, -1, 0, has + 1, 7, 8, 9, 10, last + 1, last + 2, 43, MOST}) {
      Due.refused(name + ": forge, " + what, x, () -> x.forge(c, what, 1), BAD);
    }
    for (int what = 1; what <= last; what++) {
      if (what > has && what < 11) continue;
      int was = x.step(c, what);
      for (int v : new int[] {LEAST, MOST, was}) {
        Due.due(name + ": forge " + what, x.forge(c, what, v), 1);
        Due.due(name + ": it is so then", x.step(c, what), v);
      }
    }
    Due.due(name + ": as it was", x.judge(c), 1);
  }

  /**
   * Promise 12: "0 its KIND, then what it has, in the order told (1 and more), 0 what it has not; 10 how many
   * REWRITINGS, 11 + 4 k of the k-th r, then side, j, place. BAD: the least int."; promise 13: "A number of the STEP of
   * CLAIM c (as step(), but 0 and 10: its KIND stays) becomes v: 1. BAD: also one that it has not (by its KIND; of
   * REWRITINGS)."
   */
  private static void stepAndForge() {
    ClaimHall given = hall();
    Due.give(given, 1000, F, A, A);
    Due.give(given, 1000 + Q, F, B, F, F, A);
    Due.step("GIVEN", given, 1, 0);
    Due.rewritings("GIVEN", given, 1, 0, 0, 0, 4, 0, 0, 0, 3);
    numbers("GIVEN", given, 1, 0, 2);
    ClaimHall clash = hall();
    Due.give(clash, 1000 + S, 1000 + P, A);
    Due.give(clash, 2000 + P, X, 1000 + P, F, X);
    clash.run(2);
    Due.step("CLASH", clash, 2, 1, 0, 1, 1);
    numbers("CLASH", clash, 2, 3, 0);
    ClaimHall factor = hall();
    Due.give(factor, 1000 + S, 1000 + P, A, 1000 + P, X);
    factor.run(1);
    Due.step("FACTOR", factor, 1, 2, 0, 1, 2);
    numbers("FACTOR", factor, 1, 3, 0);
    ClaimHall drop = hall();
    Due.give(drop, 1000 + S);
    Due.give(drop, 2000, X, A, 1000 + P, X);
    drop.run(2);
    Due.step("DROP", drop, 2, 3, 1);
    numbers("DROP", drop, 2, 1, 0);
    ClaimHall turn = hall();
    turn.turns(0);
    Due.give(turn, 1000, B, A, 1000 + S);
    Due.give(turn, 1000 + P, A, 1000 + Q, A, B);
    turn.run(2);
    Due.step("TURN", turn, 2, 4, 0, 0, 0, 1, 1, 2);
    numbers("TURN", turn, 2, 6, 0);
  }

  /** Promise 12: "11 + 4 k of the k-th r, then side, j, place", with all 8 that there may be */
  private static void eightRewritings() {
    ClaimHall x = hall();
    Due.give(x, 1000, F, A, A);
    Due.give(x, Due.chain(1000 + P, F, 9, A));
    Due.due("the last", x.step(1, 42), 2);
    Due.due("behind it", x.step(1, 43), LEAST);
    Due.refused("it is forged by none", x, () -> x.forge(1, 43, 1), BAD);
    Due.due("the last is forged", x.forge(1, 42, 7), 1);
    Due.due("it is so then", x.step(1, 42), 7);
    Due.due("that is no REWRITING", x.judge(1), 0);
  }

  /** Promises 12 to 14 name a CLAIM c: "BAD" */
  private static void noSuchClaim() {
    ClaimHall x = three();
    for (int c : outside(3)) {
      Due.refused("step(" + c, x, () -> x.step(c, 0), LEAST);
      Due.refused("forge(" + c, x, () -> x.forge(c, 1, 0), BAD);
      Due.refused("judge(" + c, x, () -> x.judge(c), BAD);
    }
    Due.due("the last one", x.judge(2), 1);
  }

  /**
   * Promise 15: "The k-th CLAIM, by numbers, of those from which the one without LITERALS comes"; "NONE: there is none
   * such, or the END is not 1."
   */
  private static void proof() {
    ClaimHall x = hall();
    Due.due("END 0", x.proof(0), NONE);
    Due.give(x, 1000 + S);
    Due.give(x, 1000 + P, A);
    Due.give(x, 2000 + P, X);
    Due.due("END 0, with CLAIMS", x.proof(0), NONE);
    Due.due("PROVED", x.run(9), 1);
    Due.due("the first", x.proof(0), 1);
    Due.due("the second", x.proof(1), 2);
    Due.due("itself", x.proof(2), 3);
    for (int k : new int[] {LEAST, -1, 3, 4, 150, MOST}) Due.refused("proof(" + k, x, () -> x.proof(k), NONE);
    x.clear();
    Due.due("behind clear()", x.proof(0), NONE);
    Due.due("no STEP names any", x.given(), 0);
    Due.due("itself", x.proof(0), 0);
    Due.due("no more", x.proof(1), NONE);
    x.clear();
    x.run(1);
    Due.due("END 2", x.proof(0), NONE);
    ClaimHall spent = hall();
    spent.fuel(0);
    Due.give(spent, 1000 + S);
    Due.give(spent, 2000 + S);
    Due.due("SPENT", spent.run(2), 3);
    Due.due("END 3", spent.proof(0), NONE);
  }

  /** Promise 15: "(itself, what its STEP and REWRITINGS name, and so on)" */
  private static void proofByRewritings() {
    ClaimHall x = hall();
    Due.give(x, 1000, B, A);
    Due.give(x, 1000 + S);
    Due.give(x, 1000 + Q, F, B, A, 1000 + P, A);
    Due.give(x, 1000, F, F, A, F, A);
    Due.give(x, 2000, F, F, B, F, A);
    Due.due("PROVED by two REWRITINGS", x.count(10), 1);
    Due.rewritings("two rules", x, 4, 0, 0, 0, 3, 3, 0, 0, 1);
    int[] all = {0, 3, 4};
    for (int k = 0; k < 3; k++) Due.due("proof(" + k, x.proof(k), all[k]);
    Due.due("no more", x.proof(3), NONE);
    for (int n = 0; n < 100; n++) Due.due("as often as it is asked", x.proof(n % 3), all[n % 3]);
    ClaimHall y = hall();
    y.turns(0);
    Due.give(y, 1000, B, A);
    Due.give(y, 1000 + P, B);
    Due.give(y, 1000 + S);
    Due.give(y, 2000 + P, X);
    Due.due("PROVED", y.run(9), 1);
    int[] soOn = {0, 1, 3, 4};
    for (int k = 0; k < 4; k++) Due.due("proof(" + k, y.proof(k), soOn[k]);
    Due.due("no more", y.proof(4), NONE);
  }

  /** Promise 15: "(itself, what its STEP and REWRITINGS name, and so on)", of what is forged */
  private static void proofOfForged() {
    ClaimHall x = hall();
    Due.give(x, 1000 + S);
    Due.give(x, 1000 + P, A);
    Due.give(x, 2000 + P, X);
    x.run(9);
    for (int v : new int[] {LEAST, -1, 4, 150, MOST}) {
      x.forge(3, 1, v);
      Due.due("p is " + v + ", no CLAIM: n alone", x.proof(0), 2);
      Due.due("and itself", x.proof(1), 3);
      Due.due("no more", x.proof(2), NONE);
    }
    x.forge(3, 1, 3);
    Due.due("it names itself: n", x.proof(0), 2);
    Due.due("and itself once", x.proof(1), 3);
    Due.due("no more", x.proof(2), NONE);
    x.forge(3, 1, 0);
    Due.due("another one", x.proof(0), 0);
  }

  /**
   * Promise 16: "1 the first is GREATER, -1 the second, 2 they are alike, 0 none of these. BAD: also SAYINGS without
   * PARTS."
   */
  private static void order() {
    ClaimHall x = hall();
    Due.give(x, 1000 + P, B, 1000 + P, A, 1000 + P, X, 1000 + S);
    int[][] all = {{2, 1, 0, BAD}, {-1, 2, 0, BAD}, {0, 0, 2, BAD}, {BAD, BAD, BAD, BAD}};
    for (int i = 0; i < 4; i++) {
      for (int j = 0; j < 4; j++) Due.due("order, " + i + ", " + j, x.order(0, i, 0, j), all[i][j]);
    }
    for (int c : outside(1)) {
      Due.refused("c " + c, x, () -> x.order(c, 0, 0, 0), BAD);
      Due.refused("d " + c, x, () -> x.order(0, 0, c, 0), BAD);
    }
    for (int i : outside(4)) {
      Due.refused("i " + i, x, () -> x.order(0, i, 0, 0), BAD);
      Due.refused("j " + i, x, () -> x.order(0, 0, 0, i), BAD);
    }
    Due.give(x, 2000 + Q, A, F, B);
    Due.due("the first PARTS of two", x.order(1, 0, 0, 1), 2);
    Due.due("there is one LITERAL in the second", x.order(0, 0, 1, 1), BAD);
  }

  /** Promise 17: "Whether CLAIM c TAKES IN d: 1, 0. BAD." */
  private static void takesIn() {
    ClaimHall x = three();
    int[][] all = {{1, 0, 0}, {0, 1, 0}, {0, 1, 1}};
    for (int c = 0; c < 3; c++) {
      for (int d = 0; d < 3; d++) Due.due("takesIn(" + c + ", " + d + ")", x.takesIn(c, d), all[c][d]);
    }
    for (int c : outside(3)) {
      Due.refused("c " + c, x, () -> x.takesIn(c, 0), BAD);
      Due.refused("d " + c, x, () -> x.takesIn(0, c), BAD);
    }
  }

  /**
   * Promise 18: "0 SIGNS, 1 KEPT, 2 that WAIT, 3 ACTIVE, 4 PUT AWAY of KEPT ones, 5 at once, 6 LOST, 7 STEPS made (as
   * FUEL counts), 8 REWRITINGS done (5 to 8 in all, since the beginning; 8 of LOST ones, too), 9 PICKS since clear(),
   * 10 the END, 11 numbers of the DRAFT. BAD."
   */
  private static void count() {
    ClaimHall x = three();
    Due.give(x, 1000 + S);
    Due.give(x, 1000, F, A, A);
    x.draft(1);
    x.draft(1);
    Due.counts("none is like another's", x, 7, 4, 2, 1, 1, 1, 0, 0, 0, 1, 0, 2);
    Due.due("a STEP of the rule with itself", x.run(3), 2);
    Due.counts("behind the run", x, 7, 4, 0, 3, 1, 2, 0, 1, 0, 3, 2, 2);
    for (int what : new int[] {LEAST, -1, 12, 13, MOST}) Due.refused("count(" + what, x, () -> x.count(what), BAD);
  }

  private static BigInteger then(BigInteger h, int number) {
    return h.multiply(BigInteger.valueOf(31)).add(BigInteger.valueOf(number));
  }

  /** h without any wrapping, from what the other calls answer. */
  private static BigInteger whole(ClaimHall x) {
    BigInteger h = BigInteger.valueOf(17);
    for (int what = 0; what <= 11; what++) h = then(h, x.count(what));
    int kept = x.count(1);
    for (int c = 0; c < kept; c++) {
      for (int what = 0; what <= 5; what++) h = then(h, x.claim(c, what));
      int size = x.claim(c, 0);
      for (int i = 0; i < size; i++) {
        int last = 1 + x.literal(c, i, 1);
        for (int what = 0; what <= last; what++) h = then(h, x.literal(c, i, what));
      }
      for (int what = 0; what <= 6; what++) h = then(h, x.step(c, what));
      int last = 10 + 4 * x.step(c, 10);
      for (int what = 10; what <= last; what++) h = then(h, x.step(c, what));
    }
    return h;
  }

  /**
   * Promise 19: "h is 17; h becomes 31 h and each of: count() 0 to 11, of each CLAIM claim() 0 to 5, of each LITERAL
   * literal() 0 and all from 1 on, step() 0 to 6, 10 and all behind; as longs that wrap."
   */
  private static void digest() {
    ClaimHall x = new ClaimHall();
    BigInteger h = BigInteger.valueOf(17).multiply(BigInteger.valueOf(31).pow(12)).add(BigInteger.valueOf(31).pow(11));
    Due.due("it wraps in a new hall", h.bitLength() > 63 ? 1 : 0, 1);
    Due.due("a new hall", x.digest(), h.longValue());
    Due.due("a new hall", x.digest(), -5031068272407800848L);
    ClaimHall y = three();
    Due.due("CLAIMS in each state", y.digest(), whole(y).longValue());
    ClaimHall z = hall();
    z.turns(0);
    Due.give(z, 1000, F, A, A);
    Due.give(z, 1000 + Q, F, B, F, F, A, 2000 + P, F, A);
    Due.give(z, 1000 + P, F, F, A, 1000 + S);
    z.run(3);
    Due.due("a STEP of a PICK", z.step(3, 0), 1);
    Due.due("STEPS with numbers and REWRITINGS", z.digest(), whole(z).longValue());
    z.forge(1, 11, LEAST);
    z.forge(3, 1, MOST);
    Due.due("forged ones", z.digest(), whole(z).longValue());
  }

  public static void main(String[] args) {
    constants();
    claim();
    literal();
    stepAndForge();
    eightRewritings();
    noSuchClaim();
    proof();
    proofByRewritings();
    proofOfForged();
    order();
    takesIn();
    count();
    digest();
    Due.end("EdgeAsksTest");
  }
}
