/** Promises 6 to 9: turns, fuel, run, clear; and the STEPS of each KIND, as run makes them. */
public final class PicksTest {
  private static final int NONE = -1, BAD = -2, STATE = -3;

  /** 1, 2 constants, 3 unary, 4 binary functions; sayings 5 without parts, 6 and 7 with one, 8 with two; 9 as 5. */
  private static ClaimHall hall() {
    ClaimHall x = new ClaimHall();
    x.sign(false, 0, 1);
    x.sign(false, 0, 1);
    x.sign(false, 1, 1);
    x.sign(false, 2, 1);
    x.sign(true, 0, 1);
    x.sign(true, 1, 1);
    x.sign(true, 1, 2);
    x.sign(true, 2, 1);
    x.sign(true, 0, 1);
    return x;
  }

  private static void turnsAndFuel() {
    ClaimHall x = new ClaimHall();
    Due.due("turns -1", x.turns(-1), BAD);
    Due.due("turns 21", x.turns(21), BAD);
    Due.due("turns 20", x.turns(20), 4);
    Due.due("turns 0", x.turns(0), 20);
    Due.due("turns 3", x.turns(3), 0);
    Due.due("fuel -1", x.fuel(-1), BAD);
    Due.due("fuel 4001", x.fuel(4001), BAD);
    Due.due("fuel 4000", x.fuel(4000), 2000);
    Due.due("fuel 0", x.fuel(0), 4000);
    Due.due("fuel 1", x.fuel(1), 0);
  }

  private static void runNumbers() {
    ClaimHall x = hall();
    Due.due("run 0", x.run(0), BAD);
    Due.due("run 201", x.run(201), BAD);
    Due.due("refused: the END stays", x.count(10), 0);
    Due.give(x, 1005);
    Due.due("one PICK", x.run(1), 0);
    Due.due("none WAITS, but that is not seen yet", x.count(2), 0);
    Due.due("one PICK", x.count(9), 1);
    Due.due("given still", Due.give(x, 1006, 1), 1);
    Due.due("SATURATED", x.run(200), 2);
    Due.due("PICKS that were made", x.count(9), 2);
    Due.due("given no more", Due.give(x, 1006, 2), STATE);
    Due.due("run: BAD all the same", x.run(201), BAD);
    Due.due("run: the END", x.run(1), 2);
  }

  private static void pickOrder(int turns, int... order) {
    ClaimHall x = hall();
    x.turns(turns);
    int[][] all = {{1007, 3, 3, 1}, {1007, 3, 1}, {1007, 1}, {1006, 1}, {1007, 2}, {1006, 3, 3, 3, 1}};
    for (int[] one : all) Due.give(x, one);
    for (int n = 0; n < order.length; n++) {
      x.run(1);
      Due.due("TURNS " + turns + ", PICK " + n, x.claim(order[n], 2), 1);
      Due.due("TURNS " + turns + ", ACTIVE", x.count(3), n + 1);
    }
  }

  private static void pickOrders() {
    pickOrder(20, 3, 2, 4, 1, 0, 5);
    pickOrder(0, 0, 1, 2, 3, 4, 5);
    pickOrder(1, 3, 0, 2, 1, 4, 5);
    pickOrder(2, 3, 2, 0, 4, 1, 5);
  }

  private static void clash() {
    ClaimHall x = hall();
    Due.give(x, 1007, 3, -1, 1006, -1);
    Due.give(x, 2006, 2, 2007, -1, 1008, -1, -2, 2005);
    Due.due("CHOSEN", x.claim(1, 4), 1);
    Due.due("run", x.run(2), 0);
    Due.due("KEPT", x.count(1), 3);
    Due.step("CLASH", x, 2, 1, 0, 0, 1);
    Due.literal("CLASH", x, 2, 0, false, 6, -1);
    Due.literal("CLASH", x, 2, 1, true, 6, 2);
    Due.literal("CLASH", x, 2, 2, false, 8, 3, -1, -2);
    Due.literal("CLASH", x, 2, 3, true, 5);
    Due.due("LITERALS", x.claim(2, 0), 4);
  }

  private static void clashNeedsPositiveAndChosen() {
    ClaimHall x = hall();
    Due.give(x, 1006, 1, 2005);
    Due.give(x, 2006, 1);
    Due.give(x, 2006, 2, 2007, 1);
    Due.give(x, 1006, 2);
    Due.due("SATURATED", x.run(200), 2);
    Due.due("0 is not POSITIVE, and of 2 the other one is CHOSEN", x.count(7), 0);
  }

  private static void factor() {
    ClaimHall x = hall();
    Due.give(x, 1008, -1, 1, 1006, 3, -1, 1008, 2, -2);
    x.run(1);
    Due.step("FACTOR", x, 1, 2, 0, 0, 2);
    Due.due("LITERALS", x.claim(1, 0), 2);
    Due.literal("FACTOR", x, 1, 0, false, 8, 2, 1);
    Due.literal("FACTOR", x, 1, 1, false, 6, 3, 2);
    Due.due("made", x.count(7), 1);
    ClaimHall y = hall();
    Due.give(y, 1006, -1, 1006, 3, -2, 2005);
    y.run(5);
    Due.due("not of one that is not POSITIVE", y.count(7), 0);
  }

  private static void drop() {
    ClaimHall x = hall();
    Due.give(x, 2000, 4, -1, 3, 2, 4, 3, -2, -1, 1008, -1, -2);
    x.run(1);
    Due.step("DROP", x, 1, 3, 0);
    Due.literal("DROP", x, 1, 0, false, 8, 3, 2, 2);
    Due.due("LITERALS", x.claim(1, 0), 1);
    ClaimHall y = hall();
    Due.give(y, 2000, 3, -1, -1);
    y.run(5);
    Due.due("the LETTER is in it", y.count(7), 0);
    ClaimHall z = hall();
    Due.give(z, 2000, -1, 1, 2007, 3, 3, 1);
    z.run(5);
    Due.due("EQUAL is not CHOSEN", z.count(7), 0);
  }

  private static void turn() {
    ClaimHall x = hall();
    Due.give(x, 1000, 3, 1, 2, 1005);
    Due.give(x, 1006, 2, 1007, 3, -1);
    Due.due("run", x.run(2), 0);
    Due.due("KEPT", x.count(1), 3);
    Due.step("TURN", x, 2, 4, 0, 0, 0, 1, 1, 1);
    Due.literal("TURN", x, 2, 0, false, 5);
    Due.literal("TURN", x, 2, 1, false, 6, 2);
    Due.literal("TURN", x, 2, 2, false, 7, 2);
    Due.due("from it into itself, and into the other one", x.count(7), 2);
  }

  private static void turnOnlyIntoChosen() {
    ClaimHall x = hall();
    Due.give(x, 1000, 3, 1, 2, 1005);
    Due.give(x, 2006, 3, 1, 2007, 3, 1, 1008, 3, 1, 1);
    x.turns(20);
    x.run(2);
    Due.step("TURN", x, 2, 4, 0, 0, 0, 1, 1, 1);
    Due.due("KEPT", x.count(1), 3);
    Due.literal("TURN", x, 2, 2, true, 7, 2);
  }

  private static void turnNotToGreater() {
    ClaimHall x = hall();
    Due.give(x, 1000, 2, 1, 1005);
    Due.literal("2 is GREATER than 1", x, 0, 0, false, 0, 2, 1);
    Due.give(x, 1006, 1);
    x.run(2);
    Due.due("into itself alone, for side 1 turns to what is GREATER", x.count(7), 1);
  }

  /** Four LITERALS each: seven would come of a CLASH. */
  private static void lostByLiterals() {
    ClaimHall x = hall();
    Due.give(x, 1007, -1, 1006, -1, 1006, 3, -1, 1006, 4, -1, -1, 1005);
    Due.give(x, 2007, 3, 1, 1008, 1, 1, 1008, 1, 2, 1008, 2, 1);
    x.run(2);
    Due.due("made", x.count(7) > 0 ? 1 : 0, 1);
    Due.due("LOST", x.count(6), 1);
  }

  private static void lostByPlaces() {
    ClaimHall x = hall();
    int[] deep = new int[18];
    deep[0] = 2007;
    for (int k = 1; k < 17; k++) deep[k] = 3;
    deep[17] = 2;
    Due.give(x, deep);
    Due.give(x, 1007, -1, 1008, -1, -1);
    Due.due("run", x.run(2), 0);
    Due.due("made", x.count(7), 1);
    Due.due("LOST", x.count(6), 1);
    Due.due("KEPT", x.count(1), 2);
  }

  private static void fuelIsSpent() {
    ClaimHall x = hall();
    x.fuel(2);
    Due.give(x, 1006, 1);
    Due.give(x, 2006, -1, 1006, 3, -1);
    Due.due("SPENT", x.run(50), 3);
    Due.due("made", x.count(7), 2);
    Due.due("the third STEP is not made", x.count(1), 4);
    Due.due("given", x.given(), STATE);
    x.fuel(3);
    Due.due("the END stays", x.run(50), 3);
    x.clear();
    Due.give(x, 1006, 1);
    Due.give(x, 2006, -1, 1006, 3, -1);
    Due.due("SPENT again: one was left", x.run(50), 3);
    Due.due("made since the beginning", x.count(7), 3);
  }

  private static void noStepNoFuel() {
    ClaimHall x = hall();
    x.fuel(0);
    Due.give(x, 1006, 1);
    Due.give(x, 2006, 2);
    Due.due("no STEP would be made", x.run(50), 2);
  }

  private static void rewritingsBurn() {
    ClaimHall x = hall();
    x.fuel(2);
    Due.give(x, 1000, 3, 1, 1);
    Due.give(x, 1007, 3, 3, 1);
    Due.due("REWRITINGS", x.step(1, 10), 2);
    Due.literal("rewritten", x, 1, 0, false, 7, 1);
    Due.due("REWRITINGS done", x.count(8), 2);
    Due.due("SPENT", x.run(5), 3);
    Due.due("made none", x.count(7), 0);
  }

  private static void eightRewritings() {
    ClaimHall x = hall();
    Due.give(x, 1000, 3, 1, 1);
    Due.due("given", Due.give(x, 1006, 3, 3, 3, 3, 3, 3, 3, 3, 3, 3, 1), 1);
    Due.due("eight at most", x.step(1, 10), 8);
    Due.literal("two are left", x, 1, 0, false, 6, 3, 3, 1);
    Due.due("the last", x.step(1, 11 + 4 * 7), 0);
    Due.due("its side", x.step(1, 12 + 4 * 7), 0);
    Due.due("its LITERAL", x.step(1, 13 + 4 * 7), 0);
    Due.due("its PLACE", x.step(1, 14 + 4 * 7), 3);
    Due.due("behind", x.step(1, 11 + 4 * 8), Integer.MIN_VALUE);
    Due.due("judge", x.judge(1), 1);
  }

  /** Each STEP of the chain makes one more, till 150 are KEPT. */
  private static void hundredAndFifty() {
    ClaimHall x = new ClaimHall();
    x.sign(false, 0, 1);
    x.sign(false, 1, 1);
    x.sign(true, 3, 1);
    Due.give(x, 1003, 1, 1, 1);
    Due.give(x, 2003, -1, -2, -3, 1003, 2, -1, -2, -3);
    Due.give(x, 2003, -1, -2, -3, 1003, -1, 2, -2, -3);
    Due.give(x, 2003, -1, -2, -3, 1003, -1, -2, 2, -3);
    Due.due("SPENT", x.run(200), 3);
    Due.due("KEPT", x.count(1), 150);
    Due.due("not by FUEL", x.count(7) < 2000 ? 1 : 0, 1);
    Due.due("given", x.given(), STATE);
    Due.due("clear", x.clear(), 150);
    Due.due("given", Due.give(x, 1003, 1, 1, 1), 0);
  }

  /** The 150th is given: that, too, is the END. */
  private static void hundredAndFiftyGiven() {
    ClaimHall x = new ClaimHall();
    x.sign(false, 0, 1);
    x.sign(false, 1, 1);
    x.sign(true, 3, 1);
    for (int n = 4; n <= 15; n++) x.sign(true, 0, 1);
    Due.give(x, 1003, 1, 1, 1);
    Due.give(x, 2003, -1, -2, -3, 1003, 2, -1, -2, -3);
    Due.give(x, 2003, -1, -2, -3, 1003, -1, 2, -2, -3);
    Due.give(x, 2003, -1, -2, -3, 1003, -1, -2, 2, -3);
    for (int n = 0; n < 200 && x.count(1) < 140; n++) x.run(1);
    int kept = x.count(1);
    Due.due("nearly full", kept >= 140 && kept < 150 ? 1 : 0, 1);
    for (int n = kept; n < 150; n++) {
      Due.due("goes on", x.count(10), 0);
      Due.due("given", Due.give(x, 1004 + n - kept), n);
    }
    Due.due("SPENT", x.count(10), 3);
    x.draft(1005);
    Due.due("given no more", x.given(), STATE);
    Due.due("the DRAFT stays", x.wipe(), 1);
  }

  private static void putAwayMeanwhile() {
    ClaimHall x = hall();
    x.turns(20);
    Due.give(x, 2006, -1, 1005);
    Due.give(x, 1006, -1);
    Due.due("PICKS", x.run(2), 0);
    Due.due("5 takes in what it came from", x.claim(0, 2), 2);
    Due.due("by it", x.claim(0, 3), 2);
    Due.due("made", x.count(7), 1);
    Due.due("run on", x.run(50), 2);
    Due.due("it is passed over", x.count(7), 1);
  }

  private static void pickedIsPutAway() {
    ClaimHall x = hall();
    x.turns(0);
    Due.give(x, 1006, 2);
    Due.give(x, 1006, 1);
    Due.give(x, 2006, -1, 2005);
    x.run(2);
    Due.due("PICK", x.run(1), 0);
    Due.due("the first CLASH puts the PICKED one away", x.claim(2, 3), 3);
    Due.due("no STEP more", x.count(7), 1);
    Due.literal("what is left", x, 3, 0, true, 5);
  }

  private static void clear() {
    ClaimHall x = hall();
    Due.give(x, 1006, 1);
    Due.give(x, 2006, 1);
    Due.due("PROVED", x.run(50), 1);
    x.draft(5);
    Due.counts("ahead", x, 10, 3, 1, 0, 2, 0, 0, 1, 0, 2, 1, 1);
    x.turns(7);
    x.fuel(70);
    Due.due("clear", x.clear(), 3);
    Due.counts("behind", x, 10, 0, 0, 0, 0, 0, 0, 1, 0, 0, 0, 1);
    Due.due("TURNS stay", x.turns(4), 7);
    Due.due("FUEL stays", x.fuel(2000), 70);
    Due.due("clear again", x.clear(), 0);
    Due.due("SATURATED at once", x.run(1), 2);
    Due.due("no PICK", x.count(9), 0);
    Due.due("no proof", x.proof(0), NONE);
    Due.due("clear", x.clear(), 0);
    Due.due("END", x.count(10), 0);
  }

  public static void main(String[] args) {
    turnsAndFuel();
    runNumbers();
    pickOrders();
    clash();
    clashNeedsPositiveAndChosen();
    factor();
    drop();
    turn();
    turnOnlyIntoChosen();
    turnNotToGreater();
    lostByLiterals();
    lostByPlaces();
    fuelIsSpent();
    noStepNoFuel();
    rewritingsBurn();
    eightRewritings();
    hundredAndFifty();
    hundredAndFiftyGiven();
    putAwayMeanwhile();
    pickedIsPutAway();
    clear();
    Due.end("PicksTest");
  }
}
