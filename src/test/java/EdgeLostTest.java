/** Edges of part 3: how much a STEP may have before it is LOST. */
public final class EdgeLostTest {
  /** The STEPS that were made, those LOST, those PUT AWAY at once, and the CLAIMS that are KEPT. */
  private static void made(String name, ClaimHall x, int made, int lost, int atOnce, int kept) {
    Due.due(name + ": made", x.count(7), made);
    Due.due(name + ": LOST", x.count(6), lost);
    Due.due(name + ": PUT AWAY at once", x.count(5), atOnce);
    Due.due(name + ": KEPT", x.count(1), kept);
    Due.due(name + ": it goes on", x.count(10), 0);
  }

  /** Gives both, and PICKS both. */
  private static ClaimHall both(ClaimHall x, int[] p, int[] n) {
    x.turns(0);
    Due.due("p", Due.give(x, p), 0);
    Due.due("n", Due.give(x, n), 1);
    x.run(2);
    return x;
  }

  private static int[] join(int[]... rows) {
    int length = 0;
    for (int[] row : rows) length += row.length;
    int[] all = new int[length];
    int at = 0;
    for (int[] row : rows) {
      System.arraycopy(row, 0, all, at, row.length);
      at += row.length;
    }
    return all;
  }

  /** "A STEP with more than 6 LITERALS" */
  private static void literalsOfClash() {
    int[] p = {1001, 1002, 1003, 1004};
    ClaimHall six = both(Pairs.hall(), p, Due.row(2001, 1005, 1006, 1007));
    made("CLASH, 6", six, 1, 0, 0, 3);
    Due.due("LITERALS", six.claim(2, 0), 6);
    made("CLASH, 7", both(Pairs.hall(), p, Due.row(2001, 1005, 1006, 1007, 1008)), 1, 1, 0, 2);
    ClaimHall seven = both(Pairs.hall(), p, Due.row(2001, 1002, 1003, 1004, 1005));
    made("CLASH, 7, of which cleaned 4 would be left", seven, 1, 1, 0, 2);
    made("CLASH, 10", both(Pairs.hall(), Due.row(1001, 1002, 1003, 1004, 1005, 1006),
        Due.row(2001, 1007, 1008, 1009, 1010, 1011)), 1, 1, 0, 2);
  }

  /** "A STEP with more than 6 LITERALS" */
  private static void literalsOfTurn() {
    String signs = "f0 f0 s1 s0 s0 s0 s0 s0 s0";
    int[] p = {1000, 2, 1, 1004, 1005};
    ClaimHall six = both(Due.hall(signs), p, Due.row(1003, 2, 1006, 1007, 1008));
    made("TURN, 6; and with itself", six, 2, 0, 1, 3);
    Due.due("LITERALS", six.claim(2, 0), 6);
    made("TURN, 7; and with itself", both(Due.hall(signs), p, Due.row(1003, 2, 1006, 1007, 1008, 1009)), 2, 1, 1, 2);
    ClaimHall itself = Due.hall(signs);
    Due.give(itself, 1000, 2, 1, 1004, 1005, 1006);
    itself.run(1);
    made("TURN with itself, 7, that cleaned would be TRIVIAL", itself, 1, 1, 0, 1);
  }

  /** "one of more than 30 PLACES" */
  private static void placesOfClash() {
    String signs = "f0 f1 s1 s1";
    int[] p = {1003, -1, 1004, 2, -1};
    ClaimHall most = both(Due.hall(signs), p, Due.chain(2003, 2, 27, 1));
    made("CLASH, 30", most, 1, 0, 0, 3);
    Due.due("PLACES", most.literal(2, 0, 1), 30);
    made("CLASH, 31", both(Due.hall(signs), p, Due.chain(2003, 2, 28, 1)), 1, 1, 0, 2);
    int[] fromN = {2003, 2, -1, 1004, 2, 2, -1};
    most = both(Due.hall(signs), fromN, Due.chain(1003, 2, 27, 1));
    made("CLASH, 30 in what comes of n", most, 1, 0, 0, 3);
    Due.due("PLACES", most.literal(2, 0, 1), 30);
    made("CLASH, 31 in what comes of n", both(Due.hall(signs), fromN, Due.chain(1003, 2, 28, 1)), 1, 1, 0, 2);
  }

  /** "one of more than 30 PLACES" */
  private static void placesOfFactorAndDrop() {
    for (int more = 0; more < 2; more++) {
      ClaimHall x = Due.hall("f0 f1 s1 s1");
      Due.give(x, Due.row(1003, -1), Due.chain(1003, 2, 27 + more, 1), Due.row(1004, 2, -1));
      x.run(1);
      made("FACTOR, " + (30 + more), x, 1, more, 0, 2 - more);
      ClaimHall y = Due.hall("f0 f1 s1 s1");
      Due.give(y, Due.row(2000, -1), Due.chain(2, 2, 25 + more, 1), Due.row(1004, 2, 2, -1));
      y.run(1);
      made("DROP, " + (30 + more), y, 1, more, 0, 2 - more);
    }
  }

  /** "one of more than 30 PLACES" */
  private static void placesOfTurn() {
    String signs = "f0 f3 f1:9 f1 s1 s0";
    int[] p = {1000, 3, 1, 2, 1, 1, 1, 1006};
    ClaimHall most = both(Due.hall(signs), p, join(Due.chain(1005, 4, 25, 3), Due.row(1)));
    made("TURN, 30; and with itself", most, 2, 0, 1, 3);
    Due.due("PLACES", most.literal(2, 1, 1), 30);
    ClaimHall more = both(Due.hall(signs), p, join(Due.chain(1005, 4, 26, 3), Due.row(1)));
    made("TURN, 31; and with itself", more, 2, 1, 1, 2);
  }

  /** "one of more than 30 PLACES", also if CLEANING would take it away */
  private static void placesThatWouldGo() {
    for (int more = 0; more < 2; more++) {
      ClaimHall x = Due.hall("f0 f1 s2:9");
      Due.give(x, Due.chain(1003, 2, 13, 1), Due.chain(2, 2, 12, 1));
      int[] side = more == 0 ? Due.row() : Due.row(2);
      Due.give(x, Due.row(2003, -1, -2, 2000), side, Due.row(-1), side, Due.row(-2));
      Due.due("denied EQUAL with like sides, " + (29 + 2 * more) + " PLACES", x.run(2), 1 - more);
      Due.due("LOST", x.count(6), more);
    }
  }

  /** "or, cleaned, more than 20 LETTERS is LOST (counted)." */
  private static void letters() {
    String signs = "f2 s1 s1 s0";
    int[] p = join(Due.row(1004), Due.letters(1002, 1, 0, 10));
    ClaimHall twenty = both(Due.hall(signs), p, join(Due.row(2004), Due.letters(1003, 1, 0, 10)));
    made("20", twenty, 1, 0, 0, 3);
    Due.due("LETTERS", twenty.claim(2, 5), 20);
    Due.due("the last one", twenty.literal(2, 1, 21), -20);
    Due.due("judge", twenty.judge(2), 1);
    made("21", both(Due.hall(signs), p, join(Due.row(2004), Due.letters(1003, 1, 0, 11))), 1, 1, 0, 2);
    made("30", both(Due.hall(signs), join(Due.row(1004), Due.letters(1002, 1, 0, 15)),
        join(Due.row(2004), Due.letters(1003, 1, 0, 15))), 1, 1, 0, 2);
  }

  /** "or, cleaned, more than 20 LETTERS": the LETTER of a LITERAL that goes is not counted */
  private static void lettersThatGo() {
    String signs = "f2 s1 s1 s2:9";
    int[] p = join(Due.row(1004, -1, -1), Due.letters(1002, 1, 1, 10));
    int[] n = {2004, -1, -2, 2000, -1, -2};
    ClaimHall twenty = both(Due.hall(signs), p, join(n, Due.letters(1003, 1, 2, 10)));
    made("21, of which one goes", twenty, 1, 0, 0, 3);
    Due.due("LETTERS", twenty.claim(2, 5), 20);
    made("22, of which one goes", both(Due.hall(signs), p, join(n, Due.letters(1003, 1, 2, 11))), 1, 1, 0, 2);
  }

  /** "(if one of them has more than 30 PLACES under it, the STEP is LOST ahead of that)": r, which is GREATER than l */
  private static void rightSideTooLong() {
    for (int more = 0; more < 2; more++) {
      int[] p = join(Due.row(1000, 3, -1), Due.chain(2, 2, 8 + more, -1), Due.row(4, -1, 1006));
      ClaimHall x = both(Due.hall("f0 f1 f2 f1 s1 s0"), p, join(Due.row(1005), Due.chain(4, 2, 9, 1)));
      made("r has " + (30 + more) + "; and with itself", x, 1 + more, more, 1, 2);
    }
  }

  /**
   * "(if one of them has more than 30 PLACES under it, the STEP is LOST ahead of that)": l, for which r would be short
   */
  private static void leftSideTooLong() {
    for (int more = 0; more < 2; more++) {
      int[] p = join(Due.row(1000, 3, -1), Due.chain(2, 2, 8 + more, -1), Due.row(1, 1005));
      ClaimHall x = both(Due.hall("f0 f1 f2 s1 s0"), p, join(Due.row(1004, 3), Due.chain(2, 2, 8, 1), Due.row(-1)));
      made("l has " + (30 + more) + "; and with itself", x, 2, more, 1, 3 - more);
    }
  }

  public static void main(String[] args) {
    literalsOfClash();
    literalsOfTurn();
    placesOfClash();
    placesOfFactorAndDrop();
    placesOfTurn();
    placesThatWouldGo();
    letters();
    lettersThatGo();
    rightSideTooLong();
    leftSideTooLong();
    Due.end("EdgeLostTest");
  }
}
