/**
 * So many CLAIMS that the 150 come near within 512 calls: pairs of SAYINGS without PARTS, of which none TAKES IN
 * another.
 */
final class Pairs {
  private Pairs() {
  }

  /** SAYINGS 1 to 15 without PARTS. */
  static ClaimHall hall() {
    return Due.hall("s0 s0 s0 s0 s0 s0 s0 s0 s0 s0 s0 s0 s0 s0 s0");
  }

  /** Gives pairs of 1 to 14, both said or both denied, till so many are KEPT. */
  static void give(ClaimHall x, int many) {
    int kept = x.count(1);
    for (int head = 1000; head <= 2000; head += 1000) {
      for (int a = 1; a <= 14; a++) {
        for (int b = a + 1; b <= 14 && kept < many; b++) {
          int got = Due.give(x, head + a, head + b);
          if (got == kept) kept++;
        }
      }
    }
    Due.due("so many pairs are KEPT", x.count(1), many);
  }
}
