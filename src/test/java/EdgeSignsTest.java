/** Edges of promises 1, 2, 3 and 5 (a new object, sign, draft, wipe), and of what "Terms" says of SIGNS and LETTERS. */
public final class EdgeSignsTest {
  private static final int NONE = -1, BAD = -2, STATE = -3, FULL = -4;
  private static final int LEAST = Integer.MIN_VALUE, MOST = Integer.MAX_VALUE;

  /** Promise 1: "EQUAL alone; no CLAIMS; TURNS 4, FUEL 2000." */
  private static void newObject() {
    ClaimHall x = new ClaimHall();
    Due.counts("new", x, 1, 0, 0, 0, 0, 0, 0, 0, 0, 0, 0, 0);
    Due.due("no CLAIM 0", x.claim(0, 0), BAD);
    Due.due("TURNS", x.turns(4), 4);
    Due.due("FUEL", x.fuel(2000), 2000);
    Due.due("EQUAL alone", Due.give(x, 1001), -100);
    Due.due("the DRAFT is empty", x.wipe(), 0);
  }

  /** Terms: "0 is EQUAL, a SAYING of 2 PARTS, WEIGHT 1" */
  private static void equal() {
    ClaimHall x = new ClaimHall();
    Due.due("no PART", Due.give(x, 1000), -101);
    Due.due("one PART", Due.give(x, 1000, -1), -102);
    Due.due("three PARTS", Due.give(x, 1000, -1, -2, -3), -103);
    Due.due("in a TERM", Due.give(x, 1000, 0, -1, -2, -3), -101);
    Due.due("two PARTS", Due.give(x, 1000, -1, -2), 0);
    Due.due("its WEIGHT and two LETTERS", x.claim(0, 1), 3);
  }

  /** Terms: "up to 15 others are told"; promise 2: "A SIGN more: its number.", "FULL: 15 others." */
  private static void fifteenOthers() {
    ClaimHall x = new ClaimHall();
    for (int n = 1; n <= 15; n++) {
      Due.due("SIGN " + n, x.sign(n == 15, 0, 1), n);
      Due.due("SIGNS", x.count(0), n + 1);
    }
    Due.refused("a 16th SAYING", x, () -> x.sign(true, 0, 1), FULL);
    Due.refused("a 16th FUNCTION", x, () -> x.sign(false, 3, 9), FULL);
    Due.due("SIGNS", x.count(0), 16);
    Due.due("there is no SIGN 16", Due.give(x, 1016), -100);
    Due.due("SIGN 14 is a FUNCTION", Due.give(x, 1000, 14, 16), -102);
    Due.due("SIGN 15 is a SAYING", Due.give(x, 1015), 0);
  }

  /** Terms: "with 0 to 3 PARTS"; promise 2: "BAD" */
  private static void parts() {
    for (boolean saying : new boolean[] {false, true}) {
      ClaimHall x = new ClaimHall();
      for (int parts : new int[] {LEAST, -1, 4, MOST}) {
        Due.refused(parts + " PARTS", x, () -> x.sign(saying, parts, 1), BAD);
      }
      for (int parts = 0; parts <= 3; parts++) Due.due(parts + " PARTS", x.sign(saying, parts, 1), 1 + parts);
    }
    ClaimHall x = Due.hall("s0 s3 f0 f3");
    Due.due("no PART may come", Due.give(x, 1001, -1), -101);
    Due.due("a third PART must come", Due.give(x, 1002, 3, 3), -103);
    Due.due("a fourth PART may not come", Due.give(x, 1002, 3, 3, 3, 3), -104);
    Due.due("nor in a TERM", Due.give(x, 1002, 4, 3, 3, 3, 3, 3, 3), -107);
    Due.due("three, and three", Due.give(x, 1002, 4, 3, 3, 3, 3, 3), 0);
    Due.due("none", Due.give(x, 1001), 1);
  }

  /** Terms: "a WEIGHT 1 to 9"; promise 2: "BAD" */
  private static void weights() {
    for (boolean saying : new boolean[] {false, true}) {
      ClaimHall x = new ClaimHall();
      for (int weight : new int[] {LEAST, -1, 0, 10, MOST}) {
        Due.refused("WEIGHT " + weight, x, () -> x.sign(saying, 0, weight), BAD);
      }
      for (int weight = 1; weight <= 9; weight++) Due.due("WEIGHT " + weight, x.sign(saying, 0, weight), weight);
    }
    ClaimHall x = Due.hall("s1:1 s1:9 f0:1 f0:9");
    Due.give(x, 1001, 3);
    Due.give(x, 1002, 4);
    Due.due("both light", x.claim(0, 1), 2);
    Due.due("both heavy", x.claim(1, 1), 18);
  }

  /** Promise 2: "STATE: there are CLAIMS" */
  private static void signWithClaims() {
    ClaimHall x = Due.hall("s0");
    Due.due("PUT AWAY at once", Due.give(x, 1001, 2001), NONE);
    Due.due("so there are no CLAIMS", x.sign(true, 0, 1), 2);
    Due.due("does not fit", Due.give(x, 1001, 1), -101);
    Due.due("so there are no CLAIMS", x.sign(true, 0, 1), 3);
    x.draft(1001);
    Due.due("a DRAFT is no CLAIM", x.sign(true, 0, 1), 4);
    Due.due("given", x.given(), 0);
    Due.refused("there is one", x, () -> x.sign(true, 0, 1), STATE);
    x.clear();
    Due.due("there is none again", x.sign(true, 0, 1), 5);
    Due.due("SATURATED without CLAIMS", x.run(1), 2);
    Due.due("the END does not matter", x.sign(true, 0, 1), 6);
    x.clear();
    Due.due("the one without LITERALS", x.given(), 0);
    Due.refused("is a CLAIM, too", x, () -> x.sign(true, 0, 1), STATE);
  }

  /** "Refusals, the first that fits: BAD -2 (a number not as told, no such thing), STATE -3 (as told), FULL -4." */
  private static void signRefusals() {
    ClaimHall x = Due.hall("s0 s0 s0 s0 s0 s0 s0 s0 s0 s0 s0 s0 s0 s0 s0");
    Due.refused("BAD ahead of FULL", x, () -> x.sign(true, 4, 1), BAD);
    Due.refused("FULL", x, () -> x.sign(true, 0, 1), FULL);
    Due.give(x, 1001);
    Due.refused("BAD ahead of STATE and FULL", x, () -> x.sign(true, 0, 10), BAD);
    Due.refused("STATE ahead of FULL", x, () -> x.sign(true, 0, 1), STATE);
    ClaimHall y = Due.hall("s0");
    Due.give(y, 1001);
    Due.refused("BAD ahead of STATE", y, () -> y.sign(true, -1, 1), BAD);
    Due.refused("STATE", y, () -> y.sign(true, 0, 1), STATE);
  }

  /** Promise 3: "BAD: not -20 .. 3000" */
  private static void draftNumbers() {
    ClaimHall x = new ClaimHall();
    for (int v : new int[] {LEAST, -21, 3001, MOST}) Due.refused("draft(" + v + ")", x, () -> x.draft(v), BAD);
    Due.due("draft(-20)", x.draft(-20), 1);
    Due.due("draft(3000)", x.draft(3000), 2);
    Due.due("draft(0)", x.draft(0), 3);
  }

  /** Promise 3: "A number comes behind the DRAFT (200 at most): how many it has.", "FULL." */
  private static void draftFull() {
    ClaimHall x = new ClaimHall();
    for (int n = 1; n <= 200; n++) Due.due("number " + n, x.draft(1000), n);
    Due.refused("the 201st", x, () -> x.draft(1000), FULL);
    Due.refused("BAD ahead of FULL, too small", x, () -> x.draft(-21), BAD);
    Due.refused("BAD ahead of FULL, too large", x, () -> x.draft(3001), BAD);
    Due.due("the DRAFT has", x.count(11), 200);
    Due.due("the first of them does not fit behind EQUAL", x.given(), -101);
    Due.due("there is room again", x.draft(1000), 1);
  }

  /** Promise 3 names no STATE: "BAD: not -20 .. 3000; FULL." */
  private static void draftAtAnyEnd() {
    ClaimHall x = new ClaimHall();
    x.given();
    Due.due("PROVED", x.count(10), 1);
    Due.due("draft", x.draft(1000), 1);
    Due.due("wipe", x.wipe(), 1);
  }

  /** Promise 5: "The DRAFT is empty: how many numbers it had." */
  private static void wipe() {
    ClaimHall x = new ClaimHall();
    Due.due("it was empty", x.wipe(), 0);
    x.draft(5);
    Due.due("it had one", x.wipe(), 1);
    Due.due("it is empty", x.count(11), 0);
    for (int n = 1; n <= 200; n++) x.draft(5);
    Due.due("it was full", x.wipe(), 200);
    Due.due("it is empty", x.wipe(), 0);
    Due.due("the next is the first", x.draft(1000), 1);
    Due.due("nothing is left of the others", Due.give(x, -1, -2), 0);
  }

  /** Terms: "LETTERS are 0 .. 19.", "a LETTER k is -1 - k" */
  private static void letters() {
    ClaimHall x = Due.hall("f2 s1");
    Due.due("LETTER 0 and LETTER 19", Due.give(x, 1002, 1, -1, -20), 0);
    Due.literal("numbered", x, 0, 0, false, 2, 1, -1, -2);
    x.clear();
    Due.due("all 20", Due.give(x, Due.letters(1002, 1, 0, 10), Due.letters(1002, 1, 10, 10)), 0);
    Due.due("LETTERS", x.claim(0, 5), 20);
    Due.due("the last", x.literal(0, 1, 21), -20);
    Due.refused("there is no LETTER 20", x, () -> x.draft(-21), BAD);
  }

  /** "An object is used for at most 512 calls after it has been made" */
  private static void lastCall() {
    ClaimHall x = new ClaimHall();
    for (int n = 1; n <= 255; n++) {
      x.draft(1000);
      x.wipe();
    }
    x.draft(1000);
    Due.due("the 512th call", x.wipe(), 1);
  }

  public static void main(String[] args) {
    newObject();
    equal();
    fifteenOthers();
    parts();
    weights();
    signWithClaims();
    signRefusals();
    draftNumbers();
    draftFull();
    draftAtAnyEnd();
    wipe();
    letters();
    lastCall();
    Due.end("EdgeSignsTest");
  }
}
