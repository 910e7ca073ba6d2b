/** Edges of part 4 (a PICK, the ENDS) and of promises 6 to 9: turns, fuel, run, clear. */
public final class EdgePicksTest {
  private static final int NONE = -1, BAD = -2, STATE = -3;
  private static final int LEAST = Integer.MIN_VALUE, MOST = Integer.MAX_VALUE;
  private static final int A = 1, B = 2, F = 3, P = 4, Q = 5, S = 6, T = 7;
  private static final int X = -1, Y = -2;

  /** FUNCTIONS A and B without PARTS, F with one; SAYINGS P and Q with one, S and T without. */
  private static ClaimHall hall() {
    return Due.hall("f0 f0 f1 s1 s1 s0 s0");
  }

  /** Promise 6: "TURNS (0 to 20): what it was. BAD." */
  private static void turns() {
    ClaimHall x = new ClaimHall();
    for (int t : new int[] {LEAST, -1, 21, MOST}) Due.refused("turns(" + t + ")", x, () -> x.turns(t), BAD);
    Due.due("the least; refusals change nothing", x.turns(0), 4);
    Due.due("the most", x.turns(20), 0);
    Due.refused("too many", x, () -> x.turns(21), BAD);
    Due.due("what it was", x.turns(7), 20);
    Due.due("what it was", x.turns(7), 7);
  }

  /** Promise 7: "FUEL (0 to 4000): what it was. BAD." */
  private static void fuel() {
    ClaimHall x = new ClaimHall();
    for (int most : new int[] {LEAST, -1, 4001, MOST}) Due.refused("fuel(" + most + ")", x, () -> x.fuel(most), BAD);
    Due.due("the least; refusals change nothing", x.fuel(0), 2000);
    Due.due("the most", x.fuel(4000), 0);
    Due.refused("too much", x, () -> x.fuel(4001), BAD);
    Due.due("what it was", x.fuel(70), 4000);
    Due.due("what it was", x.fuel(70), 70);
  }

  /** Promise 8: "So many PICKS (1 to 200), as long as the END is 0: the END then. BAD." */
  private static void runNumbers() {
    ClaimHall x = hall();
    Due.give(x, 1000 + S);
    Due.give(x, 1000 + T);
    Due.give(x, 1000 + P, A);
    for (int picks : new int[] {LEAST, -1, 0, 201, MOST}) Due.refused("run(" + picks + ")", x, () -> x.run(picks), BAD);
    Due.due("one PICK", x.run(1), 0);
    Due.due("PICKS", x.count(9), 1);
    Due.due("two PICKS more", x.run(2), 0);
    Due.due("PICKS", x.count(9), 3);
    Due.due("the most", x.run(200), 2);
    Due.due("none was left to be PICKED", x.count(9), 3);
    Due.refused("BAD, though the END is not 0", x, () -> x.run(0), BAD);
    Due.refused("BAD, though the END is not 0", x, () -> x.run(201), BAD);
    Due.refused("the END, and nothing changes", x, () -> x.run(200), 2);
  }

  /** Twelve CLAIMS that no STEP comes of, the first the heaviest; the order in which they are PICKED. */
  private static void picked(String name, ClaimHall x, int... order) {
    for (int c = 0; c < 12; c++) Due.give(x, 1001 + c);
    for (int n = 0; n < 12; n++) {
      Due.due(name + ": PICK " + n, x.run(1), 0);
      Due.due(name + ": PICK " + n + " is " + order[n], x.claim(order[n], 2), 1);
      Due.due(name + ": WAIT", x.count(2), 11 - n);
    }
  }

  private static ClaimHall twelve() {
    return Due.hall("s0:9 s0:9 s0:8 s0:8 s0:7 s0:7 s0:6 s0:6 s0:5 s0:5 s0:4 s0:4");
  }

  /**
   * "of those that WAIT the lightest (of as light ones the least number), but each (TURNS + 1)-th PICK the one with the
   * least number."
   */
  private static void pickOrder() {
    picked("TURNS as they are", twelve(), 10, 11, 8, 9, 0, 6, 7, 4, 5, 1, 2, 3);
    ClaimHall each = twelve();
    each.turns(0);
    picked("TURNS 0", each, 0, 1, 2, 3, 4, 5, 6, 7, 8, 9, 10, 11);
    ClaimHall second = twelve();
    second.turns(1);
    picked("TURNS 1", second, 10, 0, 11, 1, 8, 2, 9, 3, 6, 4, 7, 5);
    ClaimHall none = twelve();
    none.turns(12);
    picked("TURNS 12", none, 10, 11, 8, 9, 6, 7, 4, 5, 2, 3, 0, 1);
    ClaimHall last = twelve();
    last.turns(9);
    picked("TURNS 9", last, 10, 11, 8, 9, 6, 7, 4, 5, 2, 0, 3, 1);
  }

  /** "but each (TURNS + 1)-th PICK the one with the least number", with the most TURNS there are */
  private static void twentyFirstPick() {
    ClaimHall x = Due.hall("s0:9 s0 s0 s0 s0 s0 s0 s0 s0");
    x.turns(20);
    Due.give(x, 1001);
    for (int a = 2; a <= 9; a++) {
      for (int b = a + 1; b <= 9 && x.count(1) < 23; b++) Due.give(x, 1000 + a, 1000 + b);
    }
    Due.due("20 PICKS", x.run(20), 0);
    Due.due("the heaviest WAITS", x.claim(0, 2), 0);
    Due.due("the 21st PICK", x.run(1), 0);
    Due.due("the least number", x.claim(0, 2), 1);
    Due.due("another one WAITS still", x.count(2), 2);
  }

  /** Promise 9: "no PICK was made" */
  private static void picksBehindClear() {
    ClaimHall x = twelve();
    for (int c = 0; c < 4; c++) Due.give(x, 1001 + c);
    x.run(3);
    x.clear();
    Due.due("PICKS since clear()", x.count(9), 0);
    picked("counted anew", x, 10, 11, 8, 9, 0, 6, 7, 4, 5, 1, 2, 3);
  }

  /** "Then its STEPS are made, with each ACTIVE one a by numbers (with itself, too)" */
  private static void withItself() {
    ClaimHall x = hall();
    Due.give(x, 1000, F, A, A);
    x.run(1);
    Due.due("the TURN into itself, which is TRIVIAL", x.count(7), 1);
    Due.due("PUT AWAY at once", x.count(5), 1);
  }

  /** "Then its STEPS are made, with each ACTIVE one": not with those that WAIT */
  private static void withActiveOnes() {
    ClaimHall x = hall();
    x.turns(0);
    Due.give(x, 1000 + P, A, 1000 + S);
    Due.give(x, 1000 + Q, A);
    Due.give(x, 2000 + P, X);
    Due.due("PICKS", x.run(2), 0);
    Due.due("the third one WAITS", x.count(7), 0);
    Due.due("PICK", x.run(1), 0);
    Due.due("it is ACTIVE", x.count(7), 1);
    Due.due("what is KEPT meanwhile WAITS", x.claim(3, 2), 0);
  }

  /**
   * "CLASHES with it as p, a as n, by i", "TURNS from it into a, by i, sides, j, PLACES; if a is another one, from a
   * into it likewise; behind all of these its FACTORS, by i, j"
   */
  private static void stepsOfAPositiveOne() {
    ClaimHall x = Due.hall("f0 f0 f0 f0 s1 s1 s1");
    x.turns(0);
    Due.give(x, 2005, -1, 1006, -1);
    Due.give(x, 1000, 4, 3, 1006, 2);
    Due.give(x, 1000, 2, 1, 1005, 2, 1005, 4, 1007, -1, 1007, 1);
    Due.due("PICKS", x.run(3), 0);
    Due.step("CLASH with 0, by the first LITERAL that does", x, 3, 1, 2, 1, 0);
    Due.step("CLASH with 0, by the second", x, 4, 1, 2, 2, 0);
    Due.step("TURN from it into 1", x, 5, 4, 2, 0, 0, 1, 1, 1);
    Due.step("TURN from 1 into it", x, 6, 4, 1, 0, 0, 2, 2, 1);
    Due.step("FACTOR", x, 7, 2, 2, 3, 4);
    Due.counts("1 with itself is TRIVIAL, it with itself is LOST twice", x, 8, 8, 5, 2, 1, 1, 2, 8, 0, 3, 0);
  }

  /** "if a is another one: with a as p, it as n, by i", "if a is another one, from a into it likewise", "its DROP." */
  private static void stepsOfAnother() {
    ClaimHall x = Due.hall("f0 f0 f0 s1 s0 s0");
    x.turns(0);
    Due.give(x, 1000, 3, 2, 1005);
    Due.give(x, 1000, 2, 1, 1006);
    Due.give(x, 2000, -1, 2, 1004, -1);
    Due.due("PICKS", x.run(2), 0);
    Due.step("TURN from 1 into 0", x, 3, 4, 1, 0, 0, 0, 0, 2);
    Due.due("PICK", x.run(1), 0);
    Due.step("CLASH with 0 as p", x, 4, 1, 0, 0, 2);
    Due.step("TURN from 1 into it", x, 5, 4, 1, 0, 0, 2, 0, 2);
    Due.step("DROP", x, 6, 3, 2);
    Due.counts("0 and 1 with themselves are TRIVIAL", x, 7, 7, 4, 3, 0, 2, 0, 6, 0, 3, 0);
  }

  /** "One that has been PUT AWAY meanwhile is passed over" */
  private static void passedOver() {
    ClaimHall x = hall();
    x.turns(0);
    Due.give(x, 2000 + P, A, 1000 + S);
    Due.give(x, 2000 + P, X, 1000 + S, 1000 + T);
    Due.give(x, 1000 + P, X);
    Due.due("PICKS", x.run(3), 0);
    Due.due("S is KEPT by the first CLASH", x.claim(3, 0), 1);
    Due.due("the first one is PUT AWAY", x.claim(0, 3), 3);
    Due.due("the second, too, ahead of its turn", x.claim(1, 3), 3);
    Due.due("no CLASH with it", x.count(7), 1);
  }

  /** "One that has been PUT AWAY meanwhile is passed over": in the midst of its own STEPS, too */
  private static void passedOverInTheMidst() {
    ClaimHall x = hall();
    x.turns(0);
    Due.give(x, 2000 + P, F, A, 1000 + P, B);
    Due.give(x, 1000 + P, F, A, 1000 + P, X);
    Due.due("PICKS", x.run(2), 0);
    Due.step("CLASH by its first LITERAL", x, 2, 1, 1, 0, 0);
    Due.due("it takes in what it came from", x.claim(0, 3), 2);
    Due.step("not by its second LITERAL: a FACTOR comes next", x, 3, 2, 1, 0, 1);
    Due.due("only that one takes in the PICKED one", x.claim(1, 3), 3);
    Due.due("made", x.count(7), 2);
  }

  /** "if the PICKED one itself is, no STEP more is made." */
  private static void pickedIsPutAway() {
    ClaimHall x = hall();
    x.turns(0);
    Due.give(x, 1000 + P, A);
    Due.give(x, 1000 + P, B);
    Due.give(x, 2000 + P, X, 2000 + S);
    Due.due("PICKS", x.run(3), 0);
    Due.due("the first CLASH puts the PICKED one away", x.claim(2, 3), 3);
    Due.due("made", x.count(7), 1);
    ClaimHall y = hall();
    y.turns(0);
    Due.give(y, 2000 + P, A);
    Due.give(y, 1000 + P, A, 1000 + Q, X, 1000 + Q, Y);
    Due.due("PICKS", y.run(2), 0);
    Due.due("PUT AWAY", y.claim(1, 3), 2);
    Due.due("no FACTOR behind it", y.count(7), 1);
  }

  /** "1 PROVED: a CLAIM without LITERALS is KEPT (at once)" */
  private static void proved() {
    ClaimHall x = hall();
    x.turns(0);
    Due.give(x, 2000 + P, A);
    Due.give(x, 2000 + P, B);
    Due.give(x, 1000 + S);
    Due.give(x, 1000 + P, X);
    Due.due("the fourth PICK", x.run(200), 1);
    Due.counts("at once", x, 8, 5, 1, 0, 4, 0, 0, 1, 0, 4, 1, 0);
    Due.due("all are PUT AWAY by it", x.claim(2, 3), 4);
    Due.refused("run", x, () -> x.run(1), 1);
    ClaimHall y = hall();
    Due.due("by given()", y.given(), 0);
    Due.due("at once", y.count(10), 1);
    Due.due("PICKS", y.run(5), 1);
    Due.due("none", y.count(9), 0);
  }

  /** "2 SATURATED: none WAITS" */
  private static void saturated() {
    ClaimHall x = hall();
    Due.due("a new hall: not asked yet", x.count(10), 0);
    Due.due("no CLAIMS", x.run(1), 2);
    Due.due("no PICK was made", x.count(9), 0);
    Due.due("given no more", x.given(), STATE);
    x.clear();
    Due.give(x, 1000 + S);
    Due.due("one PICK for one CLAIM", x.run(1), 0);
    Due.due("none WAITS", x.count(2), 0);
    Due.due("one more may be given", Due.give(x, 1000 + T), 1);
    Due.due("one PICK for it", x.run(1), 0);
    Due.due("a PICK that finds none", x.run(1), 2);
    Due.due("PICKS", x.count(9), 2);
    ClaimHall y = hall();
    Due.give(y, 1000 + S);
    Due.due("seen by the second PICK of the same run", y.run(2), 2);
    Due.due("PICKS", y.count(9), 1);
  }

  /** Three STEPS can be made, all in the fourth PICK; what they make is PICKED behind it. */
  private static ClaimHall threeSteps(int most) {
    ClaimHall x = hall();
    x.turns(0);
    x.fuel(most);
    Due.give(x, 2000 + P, A, 1000 + S);
    Due.give(x, 2000 + P, B, 1000 + T);
    Due.give(x, 2000 + P, F, A, 1000 + Q, A);
    Due.give(x, 1000 + P, X);
    return x;
  }

  /**
   * "3 SPENT: a STEP would be made (of any KIND but GIVEN; LOST ones count, too) and FUEL is not above those that were
   * made and REWRITINGS done, together, since the beginning"
   */
  private static void spent() {
    for (int most = 0; most <= 4; most++) {
      ClaimHall x = threeSteps(most);
      Due.due("FUEL " + most, x.run(200), most < 3 ? 3 : 2);
      Due.due("FUEL " + most + ": made", x.count(7), Math.min(most, 3));
      Due.due("FUEL " + most + ": KEPT", x.count(1), 4 + Math.min(most, 3));
      Due.due("FUEL " + most + ": PICKS", x.count(9), most < 3 ? 4 : 7);
    }
  }

  /**
   * FUNCTIONS 1 with two PARTS, 2 without, 3 with one: of three CLAIMS come STEPS without end, but fewer than 150 are
   * KEPT.
   */
  private static ClaimHall endless() {
    ClaimHall x = Due.hall("f2 f0 f1");
    Due.give(x, 1000, 1, 2, -1, -1);
    Due.give(x, 1000, 1, 3, -1, -1, 2);
    Due.give(x, 1000, 1, 1, -1, -2, -3, 1, -1, 1, -2, -3);
    return x;
  }

  /**
   * Promise 1: "FUEL 2000"; promise 7: "FUEL (0 to 4000)": the last STEP begins below it and has 8 REWRITINGS at most
   */
  private static void spentAtTheMost() {
    ClaimHall first = endless();
    Due.due("SPENT", first.run(200), 3);
    Due.due("KEPT", first.count(1) < 150 ? 1 : 0, 1);
    int used = first.count(7) + first.count(8);
    Due.due("not below 2000: " + used, used >= 2000 && used <= 2008 ? 1 : 0, 1);
    ClaimHall most = endless();
    most.fuel(4000);
    Due.due("SPENT", most.run(200), 3);
    Due.due("KEPT", most.count(1) < 150 ? 1 : 0, 1);
    used = most.count(7) + most.count(8);
    Due.due("not below 4000: " + used, used >= 4000 && used <= 4008 ? 1 : 0, 1);
  }

  /** "a STEP would be made (of any KIND but GIVEN": none is, so FUEL 0 is enough */
  private static void noStepNoFuel() {
    ClaimHall x = hall();
    x.fuel(0);
    Due.due("given", Due.give(x, 1000 + P, A), 0);
    Due.due("given", Due.give(x, 2000 + P, B), 1);
    Due.due("given, though FUEL is 0", Due.give(x, 1000 + S, 2000 + S), NONE);
    Due.due("SATURATED", x.run(200), 2);
    Due.due("made", x.count(7), 0);
  }

  /** "LOST ones count, too" */
  private static void lostOnesCount() {
    for (int most = 0; most <= 1; most++) {
      ClaimHall x = Pairs.hall();
      x.fuel(most);
      Due.give(x, 1001, 1002, 1003, 1004);
      Due.give(x, 2001, 1005, 1006, 1007, 1008);
      Due.due("FUEL " + most, x.run(200), most == 0 ? 3 : 2);
      Due.due("LOST", x.count(6), most);
      Due.due("made", x.count(7), most);
    }
  }

  /** "FUEL is not above those that were made and REWRITINGS done, together": also those of what was given */
  private static void rewritingsCount() {
    for (int most = 2; most <= 4; most++) {
      ClaimHall x = hall();
      x.fuel(most);
      Due.give(x, 1000, F, A, A);
      Due.give(x, 1000 + P, F, F, A);
      Due.due("REWRITINGS", x.count(8), 2);
      Due.due("FUEL " + most, x.run(200), most == 2 ? 3 : 2);
      Due.due("the rule with itself", x.count(7), most == 2 ? 0 : 1);
    }
  }

  /** "FUEL is not above": REWRITINGS of a STEP that was begun may bring them above it */
  private static void rewritingsAreDone() {
    ClaimHall x = hall();
    x.turns(0);
    x.fuel(1);
    Due.give(x, 2000 + S, 1000 + Q, F, F, F, A);
    Due.give(x, 1000 + S);
    Due.give(x, 1000, F, A, A);
    Due.due("the CLASH is made", x.run(2), 0);
    Due.due("made", x.count(7), 1);
    Due.due("all its REWRITINGS", x.count(8), 3);
    Due.due("no STEP more", x.run(1), 3);
    Due.due("made", x.count(7), 1);
  }

  /** "since the beginning"; promise 9: "SIGNS, count() 5 to 8 stay" */
  private static void sinceTheBeginning() {
    ClaimHall x = threeSteps(2);
    Due.due("SPENT", x.run(200), 3);
    Due.refused("more FUEL does not take the END back", x, () -> x.run(200), 3);
    x.fuel(5);
    Due.due("nor does this", x.run(200), 3);
    x.clear();
    Due.due("END", x.count(10), 0);
    Due.due("made stay", x.count(7), 2);
    Due.give(x, 2000 + P, A, 1000 + S);
    Due.give(x, 2000 + P, B, 1000 + T);
    Due.give(x, 2000 + P, F, A, 1000 + Q, A);
    Due.give(x, 1000 + P, X);
    Due.due("three were left", x.run(200), 2);
    Due.due("made", x.count(7), 5);
    x.clear();
    Due.give(x, 2000 + P, A, 1000 + S);
    Due.give(x, 1000 + P, X);
    Due.due("none is left", x.run(200), 3);
    x.fuel(0);
    x.clear();
    Due.give(x, 2000 + P, A, 1000 + S);
    Due.give(x, 1000 + P, X);
    Due.due("nor with less than were made", x.run(200), 3);
    Due.due("made", x.count(7), 5);
  }

  /** "(at once in both; the PICK is not gone on with)": by FUEL */
  private static void spentAtOnce() {
    ClaimHall x = threeSteps(1);
    Due.due("SPENT", x.run(4), 3);
    Due.due("the PICKED one is ACTIVE", x.claim(3, 2), 1);
    Due.due("the PICK counts", x.count(9), 4);
    Due.due("one STEP", x.count(1), 5);
  }

  /** "or 150 are KEPT, and it is not PROVED (at once in both; the PICK is not gone on with)." */
  private static void hundredAndFiftyInAPick() {
    ClaimHall x = Pairs.hall();
    x.turns(0);
    Due.give(x, 2001, 2015);
    Due.give(x, 2002, 2015);
    Due.give(x, 1001, 1002);
    Pairs.give(x, 149);
    Due.due("two PICKS", x.run(2), 0);
    Due.due("the third: two STEPS could be made", x.run(1), 3);
    Due.due("KEPT", x.count(1), 150);
    Due.due("only one was made", x.count(7), 1);
    Due.due("PICKS", x.count(9), 3);
    Due.step("it", x, 149, 1, 2, 0, 0);
    Due.refused("run", x, () -> x.run(200), 3);
  }

  /** "150 may be KEPT in all."; "150 are KEPT, and it is not PROVED" */
  private static void hundredAndFiftieth() {
    ClaimHall given = Pairs.hall();
    Pairs.give(given, 148);
    Due.due("the 149th", Due.give(given, 1001, 1015), 148);
    Due.due("it goes on", given.count(10), 0);
    Due.due("the 150th", given.given(), 149);
    Due.due("PROVED", given.count(10), 1);
    Due.due("KEPT", given.count(1), 150);
    Due.due("proof", given.proof(0), 149);
    ClaimHall made = Pairs.hall();
    Due.give(made, 1015);
    Due.give(made, 2015);
    Pairs.give(made, 149);
    Due.due("PROVED by a CLASH", made.run(2), 1);
    Due.due("KEPT", made.count(1), 150);
    Due.due("the first it comes from", made.proof(0), 0);
    made.forge(149, 3, 150);
    made.forge(149, 1, 148);
    Due.due("forged to the last but one, and to none", made.proof(0), 148);
    Due.due("itself", made.proof(1), 149);
    Due.due("no more", made.proof(2), NONE);
    Due.due("clear", made.clear(), 150);
  }

  /** Promise 9: "No CLAIMS, none KEPT, END 0, no PICK was made; SIGNS, count() 5 to 8 stay: how many were KEPT." */
  private static void clear() {
    ClaimHall x = hall();
    Due.due("none", x.clear(), 0);
    Due.counts("nothing changes", x, 8, 0, 0, 0, 0, 0, 0, 0, 0, 0, 0, 0);
    x.turns(0);
    Due.give(x, 1000, F, A, A);
    Due.give(x, 1000 + P, F, A);
    Due.give(x, 1000 + P, A);
    x.run(1);
    x.draft(5);
    x.turns(9);
    x.fuel(90);
    Due.counts("ahead", x, 8, 2, 1, 1, 0, 2, 0, 1, 1, 1, 0, 1);
    Due.due("two were KEPT", x.clear(), 2);
    Due.counts("behind", x, 8, 0, 0, 0, 0, 2, 0, 1, 1, 0, 0, 1);
    Due.due("no CLAIM 0", x.claim(0, 0), BAD);
    Due.due("no CLAIM 0", x.judge(0), BAD);
    Due.due("TURNS stay", x.turns(4), 9);
    Due.due("FUEL stays", x.fuel(2000), 90);
    Due.due("the DRAFT stays", x.wipe(), 1);
    Due.due("SIGNS stay", Due.give(x, 1000 + P, F, A), 0);
    Due.rewritings("the rule is not there", x, 0);
    Due.due("one", x.clear(), 1);
    x.run(1);
    Due.due("SATURATED", x.count(10), 2);
    Due.due("none", x.clear(), 0);
    Due.due("END", x.count(10), 0);
  }

  /** Promise 9: "No CLAIMS, none KEPT": a number that is used again has nothing of the CLAIM that had it */
  private static void numbersAgain() {
    ClaimHall x = hall();
    x.turns(0);
    Due.give(x, 1000 + P, A);
    Due.give(x, 2000 + P, F, A);
    Due.give(x, 1000 + S, 1000 + T);
    Due.give(x, 1000 + S);
    x.run(1);
    Due.due("PUT AWAY", x.claim(2, 3), 3);
    x.clear();
    Due.give(x, 1000 + P, A, 1000 + S);
    Due.give(x, 2000 + P, X);
    Due.due("WAITS", x.claim(0, 2), 0);
    x.run(2);
    Due.step("it is a CLASH now", x, 2, 1, 0, 0, 1);
    Due.due("it WAITS", x.claim(2, 2), 0);
    Due.due("by none", x.claim(2, 3), NONE);
    Due.due("judged by its STEP", x.judge(2), 1);
    x.forge(2, 3, 0);
    Due.due("not by what was given once", x.judge(2), 0);
  }

  public static void main(String[] args) {
    turns();
    fuel();
    runNumbers();
    pickOrder();
    twentyFirstPick();
    picksBehindClear();
    withItself();
    withActiveOnes();
    stepsOfAPositiveOne();
    stepsOfAnother();
    passedOver();
    passedOverInTheMidst();
    pickedIsPutAway();
    proved();
    saturated();
    spent();
    spentAtTheMost();
    noStepNoFuel();
    lostOnesCount();
    rewritingsCount();
    rewritingsAreDone();
    sinceTheBeginning();
    spentAtOnce();
    hundredAndFiftyInAPick();
    hundredAndFiftieth();
    clear();
    numbersAgain();
    Due.end("EdgePicksTest");
  }
}
