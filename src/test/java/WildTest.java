import java.util.Random;

/** Calls with any numbers in any state, also far beyond the 512th: none of them may throw or fail to end. */
public final class WildTest {
  private static final int[] EDGES = {Integer.MIN_VALUE, Integer.MIN_VALUE + 1, -1000, -21, -20, -2, -1, 0, 1, 2, 3, 4, 5,
      6, 7, 9, 10, 11, 14, 15, 16, 20, 29, 30, 31, 42, 43, 149, 150, 151, 180, 200, 1000, 1001, 2000, 2003, 3000, 4000,
      Integer.MAX_VALUE - 11, Integer.MAX_VALUE - 1, Integer.MAX_VALUE};

  private static int any(Random dice) {
    return dice.nextInt(3) == 0 ? dice.nextInt(20) - 2 : EDGES[dice.nextInt(EDGES.length)];
  }

  private static long call(ClaimHall x, Random dice) {
    int a = any(dice), b = any(dice), c = any(dice), d = any(dice);
    switch (dice.nextInt(18)) {
      case 0: return x.sign(dice.nextBoolean(), a, b);
      case 1: return x.draft(a);
      case 2: return x.given();
      case 3: return dice.nextInt(10) == 0 ? x.wipe() : x.given();
      case 4: return x.turns(a);
      case 5: return x.fuel(dice.nextInt(4) == 0 ? a : 4000);
      case 6: return x.run(a);
      case 7: return dice.nextInt(6) == 0 ? x.clear() : x.run(1);
      case 8: return x.claim(a, b);
      case 9: return x.literal(a, b, c);
      case 10: return x.step(a, b);
      case 11: return x.forge(a, b, c);
      case 12: return x.judge(a);
      case 13: return x.proof(a);
      case 14: return x.order(a, b, c, d);
      case 15: return x.takesIn(a, b);
      case 16: return x.count(a);
      default: return x.digest();
    }
  }

  /** A CLAIM that is read more often than not. */
  private static void give(ClaimHall x, Random dice) {
    for (int n = 1 + dice.nextInt(3); n > 0; n--) {
      x.draft(1000 + 1000 * dice.nextInt(2));
      for (int k = 0; k < 2; k++) {
        for (int deep = dice.nextInt(4); deep > 0; deep--) x.draft(2);
        x.draft(dice.nextBoolean() ? 1 : -1 - dice.nextInt(3));
      }
    }
    x.given();
  }

  public static void main(String[] args) {
    long seen = 0;
    for (long seed = 1; seed <= 300; seed++) {
      Random dice = new Random(seed * 0x9E3779B97F4A7C15L);
      ClaimHall x = new ClaimHall();
      x.sign(false, 0, 1);
      x.sign(false, 1, 1 + dice.nextInt(9));
      for (int n = 0; n < 700; n++) {
        if (dice.nextInt(8) == 0) give(x, dice);
        seen = 31 * seen + call(x, dice);
      }
      Due.due("KEPT is in its bounds", x.count(1) >= 0 && x.count(1) <= 150 ? 1 : 0, 1);
      Due.due("all are in some state", x.count(2) + x.count(3) + x.count(4), x.count(1));
    }
    System.out.println("seen " + seen);
    Due.end("WildTest");
  }
}
