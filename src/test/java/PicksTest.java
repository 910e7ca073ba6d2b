/** Promises 8 and 9, run and clear, and the STEPS of each KIND, with ordinary inputs; the edges are in EdgePicksTest. */
public final class PicksTest {
  private static final int NONE = -1, STATE = -3;

  /** 1, 2 constants, 3 unary, 4 binary functions; sayings 5 without parts, 6 and 7 with one, 8 with two; 9 as 5. */
  private static ClaimHall hall() {
    return Due.hall("f0 f0 f1 f2 s0 s1 s1:2 s2 s0");
  }

  private static void clash() {
    ClaimHall x = hall();
    Due.give(x, 1007, 3, -1, 1006, -1);
    Due.give(x, 2006, 2, 2007, -1, 1008, -1, -2, 2005);
    Due.due("CHOSEN", x.claim(1, 4), 1);
    Due.due("run", x.run(2), 0);
    Due.due("KEPT", x.count(1), 3);
    Due.step("CLASH", x, 2, 1, 0, 0, 1);
    Due.literal("CLASH", x, 2, 0, false, 6, -1);
    Due.literal("CLASH", x, 2, 1, true, 6, 2);
    Due.literal("CLASH", x, 2, 2, false, 8, 3, -1, -2);
    Due.literal("CLASH", x, 2, 3, true, 5);
    Due.due("LITERALS", x.claim(2, 0), 4);
  }

  private static void clashNeedsPositiveAndChosen() {
    ClaimHall x = hall();
    Due.give(x, 1006, 1, 2005);
    Due.give(x, 2006, 1);
    Due.give(x, 2006, 2, 2007, 1);
    Due.give(x, 1006, 2);
    Due.due("SATURATED", x.run(200), 2);
    Due.due("0 is not POSITIVE, and of 2 the other one is CHOSEN", x.count(7), 0);
  }

  private static void factor() {
    ClaimHall x = hall();
    Due.give(x, 1008, -1, 1, 1006, 3, -1, 1008, 2, -2);
    x.run(1);
    Due.step("FACTOR", x, 1, 2, 0, 0, 2);
    Due.due("LITERALS", x.claim(1, 0), 2);
    Due.literal("FACTOR", x, 1, 0, false, 8, 2, 1);
    Due.literal("FACTOR", x, 1, 1, false, 6, 3, 2);
    Due.due("made", x.count(7), 1);
    ClaimHall y = hall();
    Due.give(y, 1006, -1, 1006, 3, -2, 2005);
    y.run(5);
    Due.due("not of one that is not POSITIVE", y.count(7), 0);
  }

  private static void drop() {
    ClaimHall x = hall();
    Due.give(x, 2000, 4, -1, 3, 2, 4, 3, -2, -1, 1008, -1, -2);
    x.run(1);
    Due.step("DROP", x, 1, 3, 0);
    Due.literal("DROP", x, 1, 0, false, 8, 3, 2, 2);
    Due.due("LITERALS", x.claim(1, 0), 1);
    ClaimHall y = hall();
    Due.give(y, 2000, 3, -1, -1);
    y.run(5);
    Due.due("the LETTER is in it", y.count(7), 0);
    ClaimHall z = hall();
    Due.give(z, 2000, -1, 1, 2007, 3, 3, 1);
    z.run(5);
    Due.due("EQUAL is not CHOSEN", z.count(7), 0);
  }

  private static void turn() {
    ClaimHall x = hall();
    Due.give(x, 1000, 3, 1, 2, 1005);
    Due.give(x, 1006, 2, 1007, 3, -1);
    Due.due("run", x.run(2), 0);
    Due.due("KEPT", x.count(1), 3);
    Due.step("TURN", x, 2, 4, 0, 0, 0, 1, 1, 1);
    Due.literal("TURN", x, 2, 0, false, 5);
    Due.literal("TURN", x, 2, 1, false, 6, 2);
    Due.literal("TURN", x, 2, 2, false, 7, 2);
    Due.due("from it into itself, and into the other one", x.count(7), 2);
  }

  private static void turnOnlyIntoChosen() {
    ClaimHall x = hall();
    Due.give(x, 1000, 3, 1, 2, 1005);
    Due.give(x, 2006, 3, 1, 2007, 3, 1, 1008, 3, 1, 1);
    x.turns(20);
    x.run(2);
    Due.step("TURN", x, 2, 4, 0, 0, 0, 1, 1, 1);
    Due.due("KEPT", x.count(1), 3);
    Due.literal("TURN", x, 2, 2, true, 7, 2);
  }

  private static void turnNotToGreater() {
    ClaimHall x = hall();
    Due.give(x, 1000, 2, 1, 1005);
    Due.literal("2 is GREATER than 1", x, 0, 0, false, 0, 2, 1);
    Due.give(x, 1006, 1);
    x.run(2);
    Due.due("into itself alone, for side 1 turns to what is GREATER", x.count(7), 1);
  }

  /** Each STEP of the chain makes one more, till 150 are KEPT. */
  private static void hundredAndFifty() {
    ClaimHall x = Due.hall("f0 f1 s3");
    Due.give(x, 1003, 1, 1, 1);
    Due.give(x, 2003, -1, -2, -3, 1003, 2, -1, -2, -3);
    Due.give(x, 2003, -1, -2, -3, 1003, -1, 2, -2, -3);
    Due.give(x, 2003, -1, -2, -3, 1003, -1, -2, 2, -3);
    Due.due("SPENT", x.run(200), 3);
    Due.due("KEPT", x.count(1), 150);
    Due.due("not by FUEL", x.count(7) < 2000 ? 1 : 0, 1);
    Due.due("given", x.given(), STATE);
    Due.due("clear", x.clear(), 150);
    Due.due("given", Due.give(x, 1003, 1, 1, 1), 0);
  }

  private static void putAwayMeanwhile() {
    ClaimHall x = hall();
    x.turns(20);
    Due.give(x, 2006, -1, 1005);
    Due.give(x, 1006, -1);
    Due.due("PICKS", x.run(2), 0);
    Due.due("5 takes in what it came from", x.claim(0, 2), 2);
    Due.due("by it", x.claim(0, 3), 2);
    Due.due("made", x.count(7), 1);
    Due.due("run on", x.run(50), 2);
    Due.due("it is passed over", x.count(7), 1);
  }

  private static void clear() {
    ClaimHall x = hall();
    Due.give(x, 1006, 1);
    Due.give(x, 2006, 1);
    Due.due("PROVED", x.run(50), 1);
    x.draft(5);
    Due.counts("ahead", x, 10, 3, 1, 0, 2, 0, 0, 1, 0, 2, 1, 1);
    x.turns(7);
    x.fuel(70);
    Due.due("clear", x.clear(), 3);
    Due.counts("behind", x, 10, 0, 0, 0, 0, 0, 0, 1, 0, 0, 0, 1);
    Due.due("TURNS stay", x.turns(4), 7);
    Due.due("FUEL stays", x.fuel(2000), 70);
    Due.due("clear again", x.clear(), 0);
    Due.due("SATURATED at once", x.run(1), 2);
    Due.due("no PICK", x.count(9), 0);
    Due.due("no proof", x.proof(0), NONE);
    Due.due("clear", x.clear(), 0);
    Due.due("END", x.count(10), 0);
  }

  public static void main(String[] args) {
    clash();
    clashNeedsPositiveAndChosen();
    factor();
    drop();
    turn();
    turnOnlyIntoChosen();
    turnNotToGreater();
    hundredAndFifty();
    putAwayMeanwhile();
    clear();
    Due.end("PicksTest");
  }
}
