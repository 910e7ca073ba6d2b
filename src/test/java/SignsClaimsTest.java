/** Promises 2 and 4, sign and given, with ordinary inputs; their edges are in EdgeSignsTest and EdgeGivenTest. */
public final class SignsClaimsTest {
  private static final int NONE = -1, STATE = -3;

  private static void signTellsWeightAndParts() {
    ClaimHall x = new ClaimHall();
    Due.due("function", x.sign(false, 3, 9), 1);
    Due.due("saying", x.sign(true, 1, 7), 2);
    Due.due("a SAYING stands in no TERM", Due.give(x, 1002, 2), -101);
    Due.due("a FUNCTION says nothing", Due.give(x, 1001, -1, -1, -1), -100);
    Due.due("both fit", Due.give(x, 1002, 1, -1, -2, -3), 0);
    Due.due("weight", x.claim(0, 1), 7 + 9 + 3);
  }

  /** 1 constant, 2 unary, 3 binary, 4 ternary functions; 5 saying without parts, 6 with one, 7 with three. */
  private static ClaimHall hall() {
    return Due.hall("f0 f1 f2 f3 s0 s1 s3");
  }

  private static void givenCleans() {
    ClaimHall x = hall();
    Due.due("sides exchanged", Due.give(x, 1000, 1, 2, 1), 0);
    Due.literal("sides exchanged", x, 0, 0, false, 0, 2, 1, 1);
    x.clear();
    int[] likes = {1006, -7, 2000, -3, -3, 1006, -7, 2006, -9, 2000, -3, 2, -3};
    Due.due("likes go, like sides denied go", Due.give(x, likes), 0);
    Due.due("three stay", x.claim(0, 0), 3);
    Due.literal("first", x, 0, 0, false, 6, -1);
    Due.literal("second", x, 0, 1, true, 6, -2);
    Due.literal("third", x, 0, 2, true, 0, 2, -3, -3);
    Due.due("letters", x.claim(0, 5), 3);
    x.clear();
    Due.due("like behind the exchange", Due.give(x, 1000, 1, 2, -1, 1000, 2, -1, 1), 0);
    Due.due("one stays", x.claim(0, 0), 1);
    Due.due("no order", Due.give(x, 1000, 3, -2, 1, 3, 1, -1), 1);
    Due.literal("no order: sides stay", x, 1, 0, false, 0, 3, -1, 1, 3, 1, -2);
  }

  private static void givenPutsAway() {
    ClaimHall x = hall();
    Due.due("like sides said", Due.give(x, 1006, 1, 1000, 2, -1, 2, -1), NONE);
    Due.due("said and denied", Due.give(x, 1006, 2, -1, 2005, 2006, 2, -1), NONE);
    Due.due("not with other LETTERS", Due.give(x, 1006, 2, -1, 2006, 2, -2), 0);
    Due.due("taken in", Due.give(x, 2006, 2, 1, 1006, 2, 2, 1), NONE);
    Due.due("counted", x.count(5), 3);
    Due.due("a wider one", Due.give(x, 1006, -1), 1);
    Due.due("puts away", x.claim(0, 2), 2);
    Due.due("by it", x.claim(0, 3), 1);
    Due.due("and takes in", Due.give(x, 1006, 1), NONE);
  }

  private static void givenEnds() {
    ClaimHall x = hall();
    Due.due("the empty DRAFT is the CLAIM without LITERALS", x.given(), 0);
    Due.due("PROVED", x.count(10), 1);
    x.draft(1005);
    Due.due("STATE", x.given(), STATE);
    Due.due("the DRAFT stays", x.count(11), 1);
    x.clear();
    Due.due("given now", x.given(), 0);
    Due.due("denied like sides", Due.give(x, 2000, 1, 1), 1);
    Due.due("PROVED", x.count(10), 1);
    Due.due("all PUT AWAY by it", x.claim(0, 3), 1);
  }

  /** A heavy unary function over a light ternary one: rewriting makes rows longer. */
  private static void givenLost() {
    ClaimHall x = Due.hall("f0 f3 f1:9 s1 s3");
    Due.due("rule", Due.give(x, 1000, 3, 1, 2, 1, 1, 1), 0);
    Due.due("one REWRITING", Due.give(x, 1004, 3, 1), 1);
    Due.literal("rewritten", x, 1, 0, false, 4, 2, 1, 1, 1);
    int[] long1 = {1005, 2, 1, 2, 1, 1, 1, 1, 2, 1, 2, 1, 1, 1, 2, 1, 1, 1, 2, 3, 1, 2, 1, 2, 1, 1, 1, 1, 3, 1};
    Due.due("fits the DRAFT", long1.length, 30);
    Due.due("LOST", Due.give(x, long1), -99);
    Due.due("LOST counted", x.count(6), 1);
    Due.due("the one that is too long is not done", x.count(8), 1);
    Due.due("KEPT none", x.count(1), 2);
    Due.due("goes on", x.count(10), 0);
  }

  public static void main(String[] args) {
    signTellsWeightAndParts();
    givenCleans();
    givenPutsAway();
    givenEnds();
    givenLost();
    Due.end("SignsClaimsTest");
  }
}
