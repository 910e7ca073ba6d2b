/** Edges of promise 4 (given): how the DRAFT is read, what it answers, and when it is refused. */
public final class EdgeGivenTest {
  private static final int NONE = -1, STATE = -3;

  /**
   * FUNCTIONS 1 without PARTS, 2 with one, 3 with two, 4 with three; SAYINGS 5 without PARTS, 6 with one, 7 with three.
   */
  private static ClaimHall hall() {
    return Due.hall("f0 f1 f2 f3 s0 s1 s3");
  }

  /** "LITERALS, each 1000 and a SAYING (said), or 2000 and one (denied)" */
  private static void heads() {
    ClaimHall x = hall();
    int[] none = {-20, -1, 0, 1, 5, 999, 1001, 1004, 1008, 1999, 2001, 2004, 2008, 2999, 3000};
    for (int head : none) Due.due("head " + head, Due.give(x, head, -1, -2), -100);
    Due.due("1000", Due.give(x, 1000, 1, -1), 0);
    Due.due("2000", Due.give(x, 2000, 1, -1), 1);
    Due.due("1005", Due.give(x, 1005), 2);
    Due.due("2005", Due.give(x, 2005), 3);
    Due.due("1007", Due.give(x, 1007, 1, 1, 1), 4);
    Due.due("2007", Due.give(x, 2007, 1, 1, 1), 5);
    for (int c = 0; c < 6; c++) Due.due("said or denied: " + c, x.literal(c, 0, 0), c % 2);
  }

  /** "LITERALS, each 1000 and a SAYING (said), or 2000 and one (denied)", with the last SIGN that can be told */
  private static void lastHead() {
    ClaimHall x = Due.hall("f0 f0 f0 f0 f0 f0 f0 f0 f0 f0 f0 f0 f0 f0 s1");
    Due.due("1016", Due.give(x, 1016, 14), -100);
    Due.due("2016", Due.give(x, 2016, 14), -100);
    Due.due("SIGN 15 is no FUNCTION", Due.give(x, 1015, 15), -101);
    Due.due("there is no SIGN 16", Due.give(x, 1015, 16), -101);
    Due.due("1015", Due.give(x, 1015, 14), 0);
    Due.due("2015", Due.give(x, 2015, 14), 1);
  }

  /** "then its PARTS by PLACES"; Terms: "a LETTER k is -1 - k; else the FUNCTION's number" */
  private static void places() {
    ClaimHall x = hall();
    for (int place : new int[] {0, 5, 6, 7, 8, 15, 16, 999, 1000, 1006, 2006, 3000}) {
      Due.due("a PART " + place, Due.give(x, 1006, place), -101);
    }
    Due.due("a FUNCTION, the first", Due.give(x, 1006, 1), 0);
    Due.due("a FUNCTION, the last", Due.give(x, 1006, 4, 1, 1, 1), 1);
    Due.due("LETTER 0", Due.give(x, 1007, -1, -1, 1), 2);
    Due.due("LETTER 19", Due.give(x, 1007, 1, -20, -20), 3);
  }

  /** "-100 less the place of the first number that does not fit" */
  private static void firstWrong() {
    ClaimHall x = hall();
    Due.due("place 0", Due.give(x, 6, 5), -100);
    Due.due("place 1, and 2, too", Due.give(x, 1006, 5, 5), -101);
    Due.due("a PART too many", Due.give(x, 1006, 1, 1, 1), -102);
    Due.due("in the second LITERAL", Due.give(x, 2005, 1007, 1, 1, 7, 8), -104);
    Due.due("nothing of it is there", x.count(1), 0);
    Due.due("it is no STEP that was PUT AWAY", x.count(5), 0);
    Due.due("nor one that is LOST", x.count(6), 0);
  }

  /** "(or of the end, where more must come" */
  private static void endTooEarly() {
    ClaimHall x = hall();
    Due.due("the only PART", Due.give(x, 1006), -101);
    Due.due("the PART of a PART", Due.give(x, 1006, 2), -102);
    Due.due("the third PART", Due.give(x, 1007, 1, 1), -103);
    Due.due("in the second LITERAL", Due.give(x, 1005, 1006), -102);
    Due.due("behind the last one nothing must come", Due.give(x, 1005, 1006, 1), 0);
  }

  /** Promise 4: "The DRAFT is read as a CLAIM"; Terms: "A CLAIM is a row of LITERALS, 6 at most." */
  private static void emptyDraft() {
    ClaimHall x = new ClaimHall();
    Due.due("no LITERALS", x.given(), 0);
    Due.due("LITERALS", x.claim(0, 0), 0);
    Due.due("WEIGHT", x.claim(0, 1), 0);
    Due.due("no CHOSEN one", x.claim(0, 4), NONE);
    Due.due("LETTERS", x.claim(0, 5), 0);
    Due.due("PROVED", x.count(10), 1);
  }

  /** "of the seventh LITERAL"; Terms: "A CLAIM is a row of LITERALS, 6 at most." */
  private static void seventhLiteral() {
    ClaimHall x = hall();
    int[] six = {1006, -1, 1006, -2, 1006, -3, 2006, 1, 1006, -4, 1005};
    Due.due("a seventh", Due.give(x, six, Due.row(2005)), -111);
    Due.due("one that was said already", Due.give(x, six, Due.row(1005)), -111);
    Due.due("one that does not fit", Due.give(x, six, Due.row(1)), -111);
    Due.due("one without its PART", Due.give(x, six, Due.row(1006)), -111);
    Due.due("six", Due.give(x, six), 0);
    Due.due("LITERALS", x.claim(0, 0), 6);
  }

  /**
   * "of the 31st PLACE of one, the LITERAL's own being the first)"; Terms: "its PLACES are the SAYING's number, then
   * the PARTS; 30 at most."
   */
  private static void thirtyFirstPlace() {
    ClaimHall x = hall();
    Due.due("31 PLACES", Due.give(x, Due.chain(1006, 2, 29, 1)), -130);
    Due.due("31, the last does not fit", Due.give(x, Due.chain(1006, 2, 29, 7)), -130);
    Due.due("30, and more must come", Due.give(x, Due.chain(1006, 2, 28, 2)), -130);
    Due.due("the 30th does not fit", Due.give(x, Due.chain(1006, 2, 28, 7)), -129);
    Due.due("29, and more must come", Due.give(x, Due.chain(1006, 2, 27, 2)), -129);
    Due.due("in the second LITERAL", Due.give(x, Due.row(1005), Due.chain(2006, 2, 40, 1)), -131);
    Due.due("30 PLACES", Due.give(x, Due.chain(1006, 2, 28, 1)), 0);
    Due.due("PLACES", x.literal(0, 0, 1), 30);
    Due.due("30 PLACES in the second, too", Due.give(x, Due.row(1005), Due.chain(2006, 2, 28, 1)), 1);
  }

  /** "of the 31st PLACE of one": both sides of EQUAL are in it */
  private static void thirtyFirstOfEqual() {
    ClaimHall x = hall();
    Due.due("31", Due.give(x, Due.chain(1000, 2, 13, 1), Due.chain(2, 2, 14, 1)), -130);
    Due.due("30", Due.give(x, Due.chain(1000, 2, 13, 1), Due.chain(2, 2, 13, -1)), 0);
    Due.due("PLACES", x.literal(0, 0, 1), 30);
  }

  /** "A CLAIM is a row of LITERALS, 6 at most.", each with "30 at most", in a DRAFT of "200 at most" */
  private static void longest() {
    ClaimHall x = hall();
    for (int n = 0; n < 6; n++) for (int v : Due.chain(1006, 2, 28, -1 - n)) x.draft(v);
    Due.due("180 numbers", x.count(11), 180);
    Due.due("given", x.given(), 0);
    Due.due("LITERALS", x.claim(0, 0), 6);
    Due.due("WEIGHT", x.claim(0, 1), 180);
    Due.due("LETTERS", x.claim(0, 5), 6);
    Due.due("the last PLACE of all", x.literal(0, 5, 31), -6);
    Due.due("judge", x.judge(0), 1);
    for (int n = 0; n < 6; n++) for (int v : Due.chain(1006, 2, 28, -1 - n)) x.draft(v);
    for (int n = 180; n < 200; n++) x.draft(1005);
    Due.due("200 numbers", x.given(), -280);
  }

  /** "A CLAIM is a row of LITERALS, 6 at most.", each with "30 at most": CLEANING and REWRITING of the longest ones */
  private static void longestCleaned() {
    ClaimHall x = Due.hall("f0 f1 f0 s1");
    for (int n = 0; n < 6; n++) for (int v : Due.chain(1004, 2, 28, n == 1 ? -1 : -1 - n)) x.draft(v);
    Due.due("the second is like the first", x.given(), 0);
    Due.due("LITERALS", x.claim(0, 0), 5);
    Due.due("the last PLACE of all", x.literal(0, 4, 31), -5);
    x.clear();
    Due.give(x, 1000, 3, 1);
    for (int n = 0; n < 6; n++) for (int v : Due.chain(1004, 2, 28, n == 0 ? 3 : -n)) x.draft(v);
    Due.due("the first is rewritten", x.given(), 1);
    Due.rewritings("the first is rewritten", x, 1, 0, 0, 0, 29);
    Due.due("its last PLACE", x.literal(1, 0, 31), 1);
    Due.due("the last PLACE of all", x.literal(1, 5, 31), -5);
    Due.due("judge", x.judge(1), 1);
  }

  /** "The DRAFT is empty then." */
  private static void draftIsEmptyThen() {
    ClaimHall x = Due.hall("f0 f3 f1:9 f1 s1");
    Due.due("KEPT", Due.give(x, 1000, 3, 1, 2, 1, 1, 1), 0);
    Due.due("numbers behind KEPT", x.wipe(), 0);
    Due.due("PUT AWAY at once", Due.give(x, 1000, 1, 1), NONE);
    Due.due("numbers behind PUT AWAY", x.wipe(), 0);
    Due.due("does not fit", Due.give(x, 1005, 1, 1, 1, 1), -102);
    Due.due("numbers behind what does not fit", x.wipe(), 0);
    Due.due("LOST", Due.give(x, Due.chain(1005, 4, 26, 3), Due.row(1)), -99);
    Due.due("numbers behind LOST", x.wipe(), 0);
  }

  /** "STATE: the END is not 0", "(both ahead; the DRAFT stays)" */
  private static void refusedAtEnd(int end, ClaimHall x) {
    Due.due("the END", x.count(10), end);
    for (int v : new int[] {1005, 7, 7}) x.draft(v);
    Due.refused("END " + end + ": ahead of what does not fit", x, x::given, STATE);
    Due.due("END " + end + ": the DRAFT stays", x.wipe(), 3);
    Due.refused("END " + end + ": the empty DRAFT", x, x::given, STATE);
    x.clear();
    Due.due("END 0", Due.give(x, 1005), 0);
  }

  /** "STATE: the END is not 0" */
  private static void refusedAtEachEnd() {
    ClaimHall proved = hall();
    proved.given();
    refusedAtEnd(1, proved);
    ClaimHall saturated = hall();
    saturated.run(1);
    refusedAtEnd(2, saturated);
    ClaimHall spent = hall();
    spent.fuel(0);
    Due.give(spent, 1005);
    Due.give(spent, 2005);
    spent.run(2);
    refusedAtEnd(3, spent);
  }

  /**
   * "FULL: 150 are KEPT (both ahead; the DRAFT stays)."; but at 150 the END is 3 at once, and of the refusals STATE is
   * "the first that fits".
   */
  private static void hundredAndFifty() {
    ClaimHall x = Pairs.hall();
    Pairs.give(x, 149);
    Due.due("149 KEPT: it goes on", x.count(10), 0);
    Due.due("the 150th is taken", Due.give(x, 1001, 2015), 149);
    Due.due("SPENT at once", x.count(10), 3);
    x.draft(1001);
    Due.refused("the 151st", x, x::given, STATE);
    Due.due("the DRAFT stays", x.wipe(), 1);
    Due.due("none more", x.count(1), 150);
    Due.due("clear", x.clear(), 150);
    Due.due("there is room again", Due.give(x, 1001), 0);
  }

  /** "NONE: it was PUT AWAY at once" */
  private static void putAwayAtOnce() {
    ClaimHall x = hall();
    Due.due("TRIVIAL", Due.give(x, 1005, 2005), NONE);
    Due.due("KEPT", Due.give(x, 1006, -1), 0);
    Due.due("like one that is there", Due.give(x, 1006, -9), NONE);
    Due.due("counted", x.count(5), 2);
    Due.due("not KEPT", x.count(1), 1);
    Due.due("no PUT AWAY of KEPT ones", x.count(4), 0);
    Due.due("the next number", Due.give(x, 1005), 1);
  }

  /** "LOST: -99."; "by one behind which a LITERAL would have more than 30 PLACES the STEP is LOST" */
  private static void lost() {
    ClaimHall x = Due.hall("f0 f3 f1:9 f1 s1");
    Due.due("rule", Due.give(x, 1000, 3, 1, 2, 1, 1, 1), 0);
    Due.due("31 PLACES behind it", Due.give(x, Due.chain(1005, 4, 26, 3), Due.row(1)), -99);
    Due.due("LOST", x.count(6), 1);
    Due.due("KEPT", x.count(1), 1);
    Due.due("PUT AWAY at once", x.count(5), 0);
    Due.due("GIVEN ones are no STEPS that FUEL counts", x.count(7), 0);
    Due.due("30 PLACES behind it", Due.give(x, Due.chain(1005, 4, 25, 3), Due.row(1)), 1);
    Due.due("PLACES", x.literal(1, 0, 1), 30);
    Due.due("LOST", x.count(6), 1);
  }

  public static void main(String[] args) {
    heads();
    lastHead();
    places();
    firstWrong();
    endTooEarly();
    emptyDraft();
    seventhLiteral();
    thirtyFirstPlace();
    thirtyFirstOfEqual();
    longest();
    longestCleaned();
    draftIsEmptyThen();
    refusedAtEachEnd();
    hundredAndFifty();
    putAwayAtOnce();
    lost();
    Due.end("EdgeGivenTest");
  }
}
