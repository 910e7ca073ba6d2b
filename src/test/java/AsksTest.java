/** Promises 10 to 19: claim, literal, step, forge, judge, proof, order, takesIn, count, digest. */
public final class AsksTest {
  private static final int NONE = -1, BAD = -2;
  private static final int LEAST = Integer.MIN_VALUE;

  /** 1, 2 constants, 3 unary (weight 2), 4 binary functions; sayings 5 without parts, 6, 7 with one, 8 with two. */
  private static ClaimHall hall() {
    return Due.hall("f0 f0 f1:2 f2 s0:3 s1 s1:4 s2");
  }

  private static void claim() {
    ClaimHall x = hall();
    Due.give(x, 1006, -5, 2007, 3, -9, 2005, 2007, 3, 1, 2008, -9, -5);
    int[] all = {5, 2 + 7 + 3 + 7 + 3, 0, NONE, 1, 2};
    for (int what = 0; what < 6; what++) Due.due("claim " + what, x.claim(0, what), all[what]);
    Due.due("what -1", x.claim(0, -1), BAD);
    Due.due("what 6", x.claim(0, 6), BAD);
    Due.due("c -1", x.claim(-1, 0), BAD);
    Due.due("c 1", x.claim(1, 0), BAD);
    Due.give(x, 1006, 1);
    Due.due("POSITIVE", x.claim(1, 4), NONE);
    Due.due("no LETTERS", x.claim(1, 5), 0);
    x.run(1);
    Due.due("ACTIVE", x.claim(1, 2), 1);
    Due.give(x, 1006, -1);
    Due.due("PUT AWAY", x.claim(1, 2), 2);
    Due.due("by", x.claim(1, 3), 2);
    Due.due("0 too, for 6(x) is in it", x.claim(0, 3), 2);
  }

  private static void literal() {
    ClaimHall x = hall();
    Due.give(x, 1008, 3, -4, 1, 2005);
    Due.literal("said", x, 0, 0, false, 8, 3, -1, 1);
    Due.literal("denied", x, 0, 1, true, 5);
    Due.due("PLACE behind", x.literal(0, 0, 6), LEAST);
    Due.due("PLACE behind", x.literal(0, 1, 3), LEAST);
    Due.due("what -1", x.literal(0, 0, -1), LEAST);
    Due.due("what huge", x.literal(0, 0, Integer.MAX_VALUE), LEAST);
    Due.due("what least", x.literal(0, 0, LEAST), LEAST);
    Due.due("i -1", x.literal(0, -1, 0), LEAST);
    Due.due("i 2", x.literal(0, 2, 0), LEAST);
    Due.due("c -1", x.literal(-1, 0, 0), LEAST);
    Due.due("c 1", x.literal(1, 0, 0), LEAST);
  }

  private static void step() {
    ClaimHall x = hall();
    Due.give(x, 1000, 3, -1, 1);
    Due.give(x, 1008, 4, 3, 2, 1, 3, -1);
    Due.step("GIVEN", x, 1, 0);
    Due.due("REWRITINGS", x.step(1, 10), 2);
    int[] rewritings = {0, 0, 0, 2, 0, 0, 0, 4};
    for (int k = 0; k < 8; k++) Due.due("rewriting " + k, x.step(1, 11 + k), rewritings[k]);
    Due.due("behind", x.step(1, 19), LEAST);
    Due.due("-1", x.step(1, -1), LEAST);
    Due.due("huge", x.step(1, Integer.MAX_VALUE), LEAST);
    Due.due("c 2", x.step(2, 0), LEAST);
    Due.due("c -1", x.step(-1, 0), LEAST);
    Due.literal("rewritten", x, 1, 0, false, 8, 4, 1, 1, 1);
  }

  /** 0 and 1 clash to 2; 2 takes part in no more. */
  private static ClaimHall clashed() {
    ClaimHall x = hall();
    Due.give(x, 1006, 1, 1006, 2);
    Due.give(x, 2006, 1, 1005);
    x.run(2);
    return x;
  }

  private static void forgeAndJudgeClash() {
    ClaimHall x = clashed();
    Due.step("CLASH", x, 2, 1, 0, 0, 1);
    Due.due("KIND stays", x.forge(2, 0, 2), BAD);
    Due.due("how many REWRITINGS stays", x.forge(2, 10, 1), BAD);
    Due.due("it has no fourth", x.forge(2, 4, 0), BAD);
    for (int what = 7; what < 10; what++) Due.due("no KIND has " + what, x.forge(2, what, 0), BAD);
    Due.due("no REWRITING", x.forge(2, 11, 0), BAD);
    Due.due("-1", x.forge(2, -1, 0), BAD);
    Due.due("GIVEN has none", x.forge(0, 1, 0), BAD);
    Due.due("c -1", x.forge(-1, 1, 0), BAD);
    Due.due("c 9", x.forge(9, 1, 0), BAD);
    Due.due("judge", x.judge(2), 1);
    forged(x, 2, 1, 1, 2, 3, -1, LEAST, Integer.MAX_VALUE);
    forged(x, 2, 2, 1, 2, -1, LEAST, Integer.MAX_VALUE);
    forged(x, 2, 3, 0, 2, 3, -1, LEAST, Integer.MAX_VALUE);
    Due.due("judge -1", x.judge(-1), BAD);
    Due.due("judge behind", x.judge(x.count(1)), BAD);
  }

  /** With each of the numbers the STEP makes something else, or nothing; with its own again it is right. */
  private static void forged(ClaimHall x, int c, int what, int... numbers) {
    int was = x.step(c, what);
    for (int v : numbers) {
      Due.due("forge(" + c + ", " + what + ", " + v + ")", x.forge(c, what, v), 1);
      Due.due("step tells it", x.step(c, what), v);
      Due.due("judge with " + v + " for " + what, x.judge(c), 0);
    }
    x.forge(c, what, was);
    Due.due("judge with its own " + what, x.judge(c), 1);
  }

  private static void judgeFactorAndDrop() {
    ClaimHall x = hall();
    Due.give(x, 1006, -1, 1006, 1, 1007, 2);
    x.run(1);
    Due.step("FACTOR", x, 1, 2, 0, 0, 1);
    Due.due("judge", x.judge(1), 1);
    forged(x, 1, 1, 1, 2, -1);
    forged(x, 1, 2, 1, 2, -1, 5);
    forged(x, 1, 3, 0, 2, 3, -1);
    ClaimHall y = hall();
    Due.give(y, 1006, 1);
    Due.give(y, 2000, 3, -1, 3, 1, 1008, -1, -1);
    y.run(3);
    Due.step("DROP", y, 2, 3, 1);
    forged(y, 2, 1, 0, 2, 3, -1);
  }

  private static void judgeTurn() {
    ClaimHall x = hall();
    Due.give(x, 1000, 3, 1, 2, 1005);
    Due.give(x, 1006, 2, 1007, 3, -1);
    x.run(2);
    Due.step("TURN", x, 2, 4, 0, 0, 0, 1, 1, 1);
    forged(x, 2, 1, 1, 2, -1, LEAST);
    forged(x, 2, 2, 1, -1, 2);
    forged(x, 2, 3, 1, 2, -1);
    forged(x, 2, 4, 0, 2, 3, -1);
    forged(x, 2, 5, 0, 2, -1);
    forged(x, 2, 6, 0, 2, 3, -1, LEAST, Integer.MAX_VALUE);
  }

  private static void judgeRewritings() {
    ClaimHall x = hall();
    Due.give(x, 1005, 1000, 3, 1, 2);
    Due.give(x, 1000, 3, -1, 1);
    Due.give(x, 1008, 3, 2, 3, 2);
    Due.due("REWRITINGS", x.step(2, 10), 2);
    Due.due("judge", x.judge(2), 1);
    Due.due("forge beyond", x.forge(2, 19, 0), BAD);
    forged(x, 2, 11, 0, 2, 3, -1, LEAST);
    forged(x, 2, 12, 1, 2, -1);
    forged(x, 2, 13, 1, -1, LEAST);
    forged(x, 2, 14, 0, 2, 4, 5, -1, Integer.MAX_VALUE);
    forged(x, 2, 18, 1, 3, 0, -1);
    Due.due("another order: first the one behind", x.forge(2, 14, 3), 1);
    Due.due("then the one ahead", x.forge(2, 18, 1), 1);
    Due.due("any REWRITING that is one does", x.judge(2), 1);
  }

  private static void judgeByWhatIsPutAway() {
    ClaimHall x = clashed();
    Due.give(x, 1006, -1);
    Due.due("0 is PUT AWAY", x.claim(0, 2), 2);
    Due.due("2 too", x.claim(2, 2), 2);
    Due.due("judge all the same", x.judge(2), 1);
    Due.due("and of what was given", x.judge(0), 1);
  }

  private static void proof() {
    ClaimHall x = hall();
    Due.give(x, 1007, 2);
    Due.give(x, 1006, 1);
    Due.give(x, 2006, -1, 1006, 3, -1);
    Due.give(x, 2006, 3, 1);
    Due.due("not yet", x.proof(0), NONE);
    Due.due("PROVED", x.run(50), 1);
    Due.due("0 is not in it", x.proof(0), 1);
    int last = x.count(1) - 1;
    Due.due("LITERALS", x.claim(last, 0), 0);
    int many = 0;
    while (many < 150 && x.proof(many) != NONE) many++;
    Due.due("itself last", x.proof(many - 1), last);
    Due.due("CLAIMS", many, 5);
    Due.due("second", x.proof(1), 2);
    Due.due("third", x.proof(2), 3);
    Due.due("-1", x.proof(-1), NONE);
    Due.due("huge", x.proof(Integer.MAX_VALUE), NONE);
    Due.due("forge what it names", x.forge(last, 1, 0), 1);
    Due.due("0 is named now", x.proof(0), 0);
    Due.due("forge it to no CLAIM", x.forge(last, 1, 77), 1);
    Due.due("still by the other one", x.proof(0), 3);
    Due.due("and itself", x.proof(1), last);
    Due.due("no more", x.proof(2), NONE);
  }

  private static void proofByRewriting() {
    ClaimHall x = hall();
    Due.give(x, 1000, 2, 1);
    Due.give(x, 1007, 1);
    Due.give(x, 2000, 3, 2, 3, 1);
    Due.due("PROVED by REWRITING", x.count(10), 1);
    Due.due("first", x.proof(0), 0);
    Due.due("second", x.proof(1), 2);
    Due.due("no more", x.proof(2), NONE);
    Due.due("judge", x.judge(2), 1);
  }

  private static void order() {
    ClaimHall x = hall();
    Due.give(x, 1006, 1, 1006, 2, 1006, 3, -1, 1006, -1, 1006, 4, -1, -2, 2005);
    int[][] all = {{2, -1, -1, 0, -1}, {1, 2, -1, 0, -1}, {1, 1, 2, 1, -1}, {0, 0, -1, 2, -1}, {1, 1, 1, 1, 2}};
    for (int i = 0; i < 5; i++) {
      for (int j = 0; j < 5; j++) Due.due("order " + i + " " + j, x.order(0, i, 0, j), all[i][j]);
    }
    Due.due("without PARTS", x.order(0, 5, 0, 0), BAD);
    Due.due("without PARTS", x.order(0, 0, 0, 5), BAD);
    Due.due("no LITERAL", x.order(0, 6, 0, 0), BAD);
    Due.due("no LITERAL", x.order(0, 0, 0, -1), BAD);
    Due.due("no CLAIM", x.order(1, 0, 0, 0), BAD);
    Due.due("no CLAIM", x.order(0, 0, -1, 0), BAD);
    x.clear();
    Due.give(x, 1006, 4, -1, 3, -2, 1006, 4, -1, 4, -2, 1, 1006, 4, 3, -1, -2, 1006, 4, 4, -2, 1, 1);
    Due.due("as heavy, first PART alike", x.order(0, 0, 0, 1), -1);
    Due.due("first PARTS unlike: no LETTER too many, heavier", x.order(0, 2, 0, 0), 1);
    Due.due("as heavy", x.order(0, 0, 0, 2), -1);
    Due.due("a LETTER more on each side", x.order(0, 0, 0, 3), 0);
    Due.give(x, 1007, 4, 1, -1);
    Due.due("LETTERS of the other CLAIM as they are", x.order(0, 0, 1, 0), 1);
    Due.due("the other way", x.order(1, 0, 0, 0), -1);
  }

  private static void takesIn() {
    ClaimHall x = hall();
    Due.give(x, 1008, -1, -2, 1006, -1);
    Due.give(x, 1008, 1, 3, 2, 1006, 2, 1006, 1, 2005);
    Due.due("1 is PUT AWAY at once", x.count(5), 1);
    Due.give(x, 1008, 1, 3, 2, 1006, 2, 2006, 1, 2005);
    Due.due("not with 6(2) nor with a denial", x.takesIn(0, 1), 0);
    Due.due("itself", x.takesIn(0, 0), 1);
    Due.due("not the other way", x.takesIn(1, 0), 0);
    Due.due("BAD", x.takesIn(0, 2), BAD);
    Due.due("BAD", x.takesIn(-1, 0), BAD);
    x.clear();
    Due.give(x, 1008, 1, 2);
    Due.give(x, 1008, -1, -2, 1008, -2, -1);
    Due.due("more LITERALS", x.takesIn(1, 0), 0);
    x.clear();
    Due.give(x, 1008, 1, 1, 1005);
    Due.give(x, 1008, -1, -2, 1008, -2, -1);
    Due.due("two onto one, and 0 is PUT AWAY", x.claim(0, 3), 1);
    Due.due("takes in", x.takesIn(1, 0), 1);
    x.clear();
    Due.give(x, 1000, 4, 1, 2, 4, 2, 1);
    Due.give(x, 1000, 4, -1, -2, 4, -2, -1);
    Due.due("EQUAL is taken PLACE by PLACE", x.takesIn(1, 0), 1);
    x.clear();
    Due.give(x, 1008, -1, 1, 1008, -2, 2, 1008, -1, -2);
    Due.give(x, 1008, 3, 1, 1, 1008, 3, 2, 2, 1008, 3, 3, 1, 1, 1008, 3, 3, 1, 3, 1);
    Due.due("what stands must be taken back", x.takesIn(0, 1), 0);
    Due.give(x, 1008, 3, 1, 1, 1008, 3, 3, 1, 1, 1008, 3, 2, 2, 1008, 3, 3, 1, 3, 2);
    Due.due("so is here", x.count(5), 2);
    x.clear();
    Due.give(x, 2008, 3, 1, 1, 2008, 2, 1, 2008, 2, 2, 2005);
    Due.give(x, 2008, -1, 1, 2008, -1, 2);
    Due.due("the first try fails, the second does not", x.takesIn(1, 0), 1);
  }

  private static void count() {
    ClaimHall x = hall();
    Due.due("-1", x.count(-1), BAD);
    Due.due("12", x.count(12), BAD);
    Due.give(x, 1006, 1);
    Due.give(x, 2006, -1, 1006, 3, -1);
    Due.give(x, 1005);
    Due.give(x, 1005);
    Due.give(x, 1000, 2, 1);
    Due.give(x, 1007, 2);
    x.draft(1);
    x.run(3);
    Due.counts("count", x, 9, 5, 2, 3, 0, 2, 0, 1, 1, 3, 0, 1);
  }

  private static long add(long h, long... all) {
    long now = h;
    for (long one : all) now = 31 * now + one;
    return now;
  }

  private static void digest() {
    ClaimHall x = new ClaimHall();
    long none = add(17, 1, 0, 0, 0, 0, 0, 0, 0, 0, 0, 0, 0);
    Due.due("new", x.digest(), none);
    x.draft(5);
    Due.due("DRAFT", x.digest(), add(17, 1, 0, 0, 0, 0, 0, 0, 0, 0, 0, 0, 1));
    x.wipe();
    x.sign(false, 0, 1);
    x.sign(true, 1, 2);
    x.sign(false, 0, 1);
    Due.give(x, 1000, 1, 3);
    Due.give(x, 2002, 3, 1002, -4);
    Due.give(x, 1002, -3);
    long h = add(17, 4, 3, 2, 0, 1, 0, 0, 0, 1, 0, 0, 0);
    h = add(h, 1, 3, 0, -1, -1, 0, 0, 3, 0, 3, 1, 0, 0, 0, 0, 0, 0, 0, 0);
    h = add(h, 2, 6, 2, 2, 0, 1, 1, 2, 2, 1, 0, 2, 2, -1, 0, 0, 0, 0, 0, 0, 0, 1, 0, 0, 0, 1);
    h = add(h, 1, 3, 0, -1, -1, 1, 0, 2, 2, -1, 0, 0, 0, 0, 0, 0, 0, 0);
    Due.due("digest", x.digest(), h);
    Due.due("asking changes nothing", x.digest(), h);
    x.judge(1);
    x.takesIn(2, 1);
    x.order(1, 0, 2, 0);
    x.sign(true, 9, 9);
    x.run(0);
    x.forge(0, 1, 1);
    Due.due("nor do refusals", x.digest(), h);
    x.forge(1, 11, 5);
    Due.due("forging does", x.digest() == h ? 1 : 0, 0);
  }

  public static void main(String[] args) {
    claim();
    literal();
    step();
    forgeAndJudgeClash();
    judgeFactorAndDrop();
    judgeTurn();
    judgeRewritings();
    judgeByWhatIsPutAway();
    proof();
    proofByRewriting();
    order();
    takesIn();
    count();
    digest();
    Due.end("AsksTest");
  }
}
