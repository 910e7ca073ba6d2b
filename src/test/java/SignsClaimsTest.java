/** Promises 1 to 5: a new object, sign, draft, given, wipe. */
public final class SignsClaimsTest {
  private static final int NONE = -1, BAD = -2, STATE = -3, FULL = -4;

  private static void newObject() {
    ClaimHall x = new ClaimHall();
    Due.counts("new", x, 1, 0, 0, 0, 0, 0, 0, 0, 0, 0, 0, 0);
    Due.due("new: turns", x.turns(0), 4);
    Due.due("new: fuel", x.fuel(0), 2000);
    Due.due("new: claim", x.claim(0, 0), BAD);
    Due.due("new: EQUAL is a SAYING of 2 PARTS", Due.give(x, 1000, -1), -102);
    Due.due("new: EQUAL weighs 1", Due.give(x, 1000, -1, -2), 0);
    Due.due("new: EQUAL weighs 1", x.claim(0, 1), 3);
  }

  private static void sign() {
    ClaimHall x = new ClaimHall();
    Due.due("sign: parts -1", x.sign(true, -1, 1), BAD);
    Due.due("sign: parts 4", x.sign(true, 4, 1), BAD);
    Due.due("sign: weight 0", x.sign(false, 0, 0), BAD);
    Due.due("sign: weight 10", x.sign(false, 0, 10), BAD);
    Due.due("sign: refusals change nothing", x.count(0), 1);
    for (int n = 1; n <= 15; n++) Due.due("sign " + n, x.sign(n % 2 == 0, n % 4, 1 + n % 9), n);
    Due.due("sign: 15 others", x.sign(true, 0, 1), FULL);
    Due.due("sign: BAD ahead of FULL", x.sign(true, 0, 10), BAD);
    Due.due("sign: count", x.count(0), 16);
    Due.due("given", Due.give(x, 1000, -1, -2), 0);
    Due.due("sign: STATE ahead of FULL", x.sign(true, 0, 1), STATE);
    Due.due("sign: BAD ahead of STATE", x.sign(true, 4, 1), BAD);
    x.clear();
    Due.due("sign: no CLAIMS any more", x.sign(true, 0, 1), FULL);
  }

  private static void signTellsWeightAndParts() {
    ClaimHall x = new ClaimHall();
    Due.due("function", x.sign(false, 3, 9), 1);
    Due.due("saying", x.sign(true, 1, 7), 2);
    Due.due("a SAYING stands in no TERM", Due.give(x, 1002, 2), -101);
    Due.due("a FUNCTION says nothing", Due.give(x, 1001, -1, -1, -1), -100);
    Due.due("both fit", Due.give(x, 1002, 1, -1, -2, -3), 0);
    Due.due("weight", x.claim(0, 1), 7 + 9 + 3);
  }

  private static void draft() {
    ClaimHall x = new ClaimHall();
    Due.due("draft -21", x.draft(-21), BAD);
    Due.due("draft 3001", x.draft(3001), BAD);
    Due.due("draft -20", x.draft(-20), 1);
    Due.due("draft 3000", x.draft(3000), 2);
    for (int n = 3; n <= 200; n++) Due.due("draft " + n, x.draft(0), n);
    Due.due("draft 201st", x.draft(0), FULL);
    Due.due("draft: BAD ahead of FULL", x.draft(-21), BAD);
    Due.due("draft count", x.count(11), 200);
    Due.due("wipe", x.wipe(), 200);
    Due.due("wipe again", x.wipe(), 0);
    Due.due("draft count", x.count(11), 0);
    Due.due("draft anew", x.draft(7), 1);
  }

  /** 1 constant, 2 unary, 3 binary, 4 ternary functions; 5 saying without parts, 6 with one, 7 with three. */
  private static ClaimHall hall() {
    ClaimHall x = new ClaimHall();
    x.sign(false, 0, 1);
    x.sign(false, 1, 1);
    x.sign(false, 2, 1);
    x.sign(false, 3, 1);
    x.sign(true, 0, 1);
    x.sign(true, 1, 1);
    x.sign(true, 3, 1);
    return x;
  }

  private static void givenReads() {
    ClaimHall x = hall();
    Due.due("no head", Due.give(x, -1), -100);
    Due.due("DRAFT is empty then", x.count(11), 0);
    Due.due("head of no SIGN", Due.give(x, 1008), -100);
    Due.due("999", Due.give(x, 999, 1), -100);
    Due.due("3000", Due.give(x, 3000), -100);
    Due.due("1999", Due.give(x, 1999), -100);
    Due.due("2008", Due.give(x, 2008), -100);
    Due.due("a head for a PART", Due.give(x, 1006, 1006), -101);
    Due.due("no SIGN in a PART", Due.give(x, 1006, 8), -101);
    Due.due("EQUAL in a PART", Due.give(x, 1006, 0), -101);
    Due.due("the end", Due.give(x, 1006), -101);
    Due.due("the end inside", Due.give(x, 1006, 1, 2006, 3, 1), -105);
    Due.due("a PART too many", Due.give(x, 1006, 1, 1), -102);
    Due.due("a PART of nothing", Due.give(x, 1005, -20), -101);
    Due.due("seventh LITERAL", Due.give(x, 1005, 2005, 1005, 2005, 1006, 1, 1005, 1005), -107);
    Due.due("seventh that is none", Due.give(x, 1005, 2005, 1005, 2005, 1006, 1, 1005, 1), -107);
    Due.due("nothing was PUT AWAY", x.count(5), 0);
    Due.due("six, TRIVIAL", Due.give(x, 1005, 2005, 1005, 2005, 1006, 1, 1005), NONE);
    Due.due("LETTER 19", Due.give(x, 2006, -20), 0);
    Due.literal("LETTERS are numbered", x, 0, 0, true, 6, -1);
  }

  private static int[] chain(int head, int many, int last) {
    int[] row = new int[many + 2];
    row[0] = head;
    for (int k = 1; k <= many; k++) row[k] = 2;
    row[many + 1] = last;
    return row;
  }

  private static void givenLength() {
    ClaimHall x = hall();
    Due.due("30 PLACES", Due.give(x, chain(1006, 28, 1)), 0);
    Due.due("31 PLACES", Due.give(x, chain(1006, 29, 1)), -130);
    Due.due("31st PLACE of the second LITERAL", Due.give(x, join(new int[] {1005}, chain(1006, 33, 1))), -131);
    Due.due("length", x.literal(0, 0, 1), 30);
    Due.due("last", x.literal(0, 0, 31), 1);
    Due.due("behind", x.literal(0, 0, 32), Integer.MIN_VALUE);
  }

  private static int[] join(int[] a, int[] b) {
    int[] both = new int[a.length + b.length];
    System.arraycopy(a, 0, both, 0, a.length);
    System.arraycopy(b, 0, both, a.length, b.length);
    return both;
  }

  private static void givenCleans() {
    ClaimHall x = hall();
    Due.due("sides exchanged", Due.give(x, 1000, 1, 2, 1), 0);
    Due.literal("sides exchanged", x, 0, 0, false, 0, 2, 1, 1);
    x.clear();
    Due.due("likes go, like sides denied go", Due.give(x, 1006, -7, 2000, -3, -3, 1006, -7, 2006, -9, 2000, -3, 2, -3), 0);
    Due.due("three stay", x.claim(0, 0), 3);
    Due.literal("first", x, 0, 0, false, 6, -1);
    Due.literal("second", x, 0, 1, true, 6, -2);
    Due.literal("third", x, 0, 2, true, 0, 2, -3, -3);
    Due.due("letters", x.claim(0, 5), 3);
    x.clear();
    Due.due("like behind the exchange", Due.give(x, 1000, 1, 2, -1, 1000, 2, -1, 1), 0);
    Due.due("one stays", x.claim(0, 0), 1);
    Due.due("no order", Due.give(x, 1000, 3, -2, 1, 3, 1, -1), 1);
    Due.literal("no order: sides stay", x, 1, 0, false, 0, 3, -1, 1, 3, 1, -2);
  }

  private static void givenPutsAway() {
    ClaimHall x = hall();
    Due.due("like sides said", Due.give(x, 1006, 1, 1000, 2, -1, 2, -1), NONE);
    Due.due("said and denied", Due.give(x, 1006, 2, -1, 2005, 2006, 2, -1), NONE);
    Due.due("not with other LETTERS", Due.give(x, 1006, 2, -1, 2006, 2, -2), 0);
    Due.due("taken in", Due.give(x, 2006, 2, 1, 1006, 2, 2, 1), NONE);
    Due.due("counted", x.count(5), 3);
    Due.due("a wider one", Due.give(x, 1006, -1), 1);
    Due.due("puts away", x.claim(0, 2), 2);
    Due.due("by it", x.claim(0, 3), 1);
    Due.due("and takes in", Due.give(x, 1006, 1), NONE);
  }

  private static void givenEnds() {
    ClaimHall x = hall();
    Due.due("the empty DRAFT is the CLAIM without LITERALS", x.given(), 0);
    Due.due("PROVED", x.count(10), 1);
    x.draft(1005);
    Due.due("STATE", x.given(), STATE);
    Due.due("the DRAFT stays", x.count(11), 1);
    x.clear();
    Due.due("given now", x.given(), 0);
    Due.due("denied like sides", Due.give(x, 2000, 1, 1), 1);
    Due.due("PROVED", x.count(10), 1);
    Due.due("all PUT AWAY by it", x.claim(0, 3), 1);
  }

  /** A heavy unary function over a light ternary one: rewriting makes rows longer. */
  private static void givenLost() {
    ClaimHall x = new ClaimHall();
    x.sign(false, 0, 1);
    x.sign(false, 3, 1);
    x.sign(false, 1, 9);
    x.sign(true, 1, 1);
    x.sign(true, 3, 1);
    Due.due("rule", Due.give(x, 1000, 3, 1, 2, 1, 1, 1), 0);
    Due.due("one REWRITING", Due.give(x, 1004, 3, 1), 1);
    Due.literal("rewritten", x, 1, 0, false, 4, 2, 1, 1, 1);
    int[] long1 = {1005, 2, 1, 2, 1, 1, 1, 1, 2, 1, 2, 1, 1, 1, 2, 1, 1, 1, 2, 3, 1, 2, 1, 2, 1, 1, 1, 1, 3, 1};
    Due.due("fits the DRAFT", long1.length, 30);
    Due.due("LOST", Due.give(x, long1), -99);
    Due.due("LOST counted", x.count(6), 1);
    Due.due("the one that is too long is not done", x.count(8), 1);
    Due.due("KEPT none", x.count(1), 2);
    Due.due("goes on", x.count(10), 0);
  }

  public static void main(String[] args) {
    newObject();
    sign();
    signTellsWeightAndParts();
    draft();
    givenReads();
    givenLength();
    givenCleans();
    givenPutsAway();
    givenEnds();
    givenLost();
    Due.end("SignsClaimsTest");
  }
}
