import java.util.ArrayList;
import java.util.List;
import java.util.Random;

/** Runs of calls by chance, the same ones each time, on ClaimHall and on PlainHall: each answer is to be the same. */
public final class AgainstPlainTest {
  private final Random dice;
  private final ClaimHall hall = new ClaimHall();
  private final PlainHall plain = new PlainHall();
  private final List<int[]> functions = new ArrayList<>();
  private final List<int[]> sayings = new ArrayList<>();
  private final StringBuilder told = new StringBuilder();
  private int calls = 0;
  private int letters;
  private int termSize;
  private int mostLiterals;
  private int equalities;
  private int denials;
  private boolean wrong = false;
  private static final int[] SEEN = new int[16];

  private AgainstPlainTest(long seed) {
    // near seeds would begin alike
    dice = new Random(seed * 0x9E3779B97F4A7C15L);
  }

  private long same(String call, long got, long want) {
    calls++;
    told.append(call).append(" -> ").append(got).append('\n');
    if (got != want) {
      wrong = true;
      System.out.println("after\n" + told + call + " answered " + got + ", due is " + want);
    }
    return want;
  }

  private int below(int n) {
    return dice.nextInt(n);
  }

  private int chance(int a, int b) {
    return a + below(b - a + 1);
  }

  private void sign(boolean saying, int parts, int weight) {
    int s = (int) same("sign(" + saying + ", " + parts + ", " + weight + ")", hall.sign(saying, parts, weight),
        plain.sign(saying, parts, weight));
    if (s > 0) (saying ? sayings : functions).add(new int[] {s, parts});
  }

  private void draft(int v) {
    same("draft(" + v + ")", hall.draft(v), plain.draft(v));
  }

  private int given() {
    return (int) same("given()", hall.given(), plain.given());
  }

  private int run(int picks) {
    return (int) same("run(" + picks + ")", hall.run(picks), plain.run(picks));
  }

  /** Long LITERALS with few LETTERS, whose STANDINGS grow far beyond 30 PLACES. */
  private void setUpLong() {
    letters = chance(2, 8);
    termSize = chance(18, 28);
    mostLiterals = 1;
    equalities = below(3) == 0 ? 50 : 0;
    denials = 50;
    sign(false, 0, 1);
    sign(false, 2, 1);
    sign(false, 3, 2);
    sign(false, 3, 1);
    sign(true, 1, 1);
    if (below(2) == 0) sayings.add(new int[] {0, 2});
    setFuel(300);
  }

  /** A heavy FUNCTION that REWRITING turns into many light ones. */
  private void setUpHeavy() {
    letters = chance(1, 3);
    termSize = chance(8, 24);
    mostLiterals = below(3) == 0 ? 2 : 1;
    equalities = chance(20, 70);
    denials = chance(0, 50);
    sign(false, 0, 1);
    sign(false, 3, 1);
    sign(false, 1, 9);
    sign(false, 2, below(2) == 0 ? 1 : 9);
    sign(true, 1, 1);
    sayings.add(new int[] {0, 2});
    setFuel(300);
    for (int v : new int[] {1000, 3, -1, 2, -1, 1, -1}) draft(v);
    given();
  }

  /** So many LETTERS that two CLAIMS have more than 20 together. */
  private void setUpLetters() {
    letters = 20;
    termSize = chance(6, 12);
    mostLiterals = chance(2, 4);
    equalities = below(30);
    denials = chance(20, 50);
    sign(false, 3, 1);
    sign(false, 0, 1);
    sign(false, 3, 2);
    sign(true, 3, 1);
    sign(true, 2, 1);
    sign(true, 0, 1);
    setFuel(300);
  }

  /** CLAIMS of which each PICK makes more, so that the 150 come near. */
  private void setUpMany() {
    letters = 3;
    termSize = 3;
    mostLiterals = 2;
    equalities = 0;
    denials = 40;
    sign(false, 0, 1);
    sign(false, 1, chance(1, 2));
    sign(true, 3, 1);
    for (int n = chance(0, 4); n > 0; n--) sign(true, 0, chance(1, 9));
    setFuel(chance(300, 900));
    int[][] all = {{1003, 1, 1, 1}, {2003, -1, -2, -3, 1003, 2, -1, -2, -3}, {2003, -1, -2, -3, 1003, -1, 2, -2, -3},
        {2003, -1, -2, -3, 1003, -1, -2, 2, -3}};
    for (int[] one : all) {
      for (int v : one) draft(v);
      given();
    }
    note(run(below(3) == 0 ? 200 : chance(20, 70)));
  }

  private void setUp() {
    int kind = below(48);
    if (kind == 0) {
      setUpMany();
      return;
    }
    kind /= 3;
    if (kind < 3) {
      setUpLong();
      return;
    }
    if (kind < 6) {
      setUpHeavy();
      return;
    }
    if (kind < 7) {
      setUpLetters();
      return;
    }
    letters = chance(1, below(4) == 0 ? 20 : 4);
    termSize = below(4) == 0 ? chance(6, 14) : chance(2, 5);
    mostLiterals = below(3) == 0 ? 1 : chance(1, below(4) == 0 ? 6 : 3);
    equalities = below(101);
    denials = below(4) == 0 ? below(101) : chance(20, 50);
    int most = below(3) == 0 ? 9 : below(2) == 0 ? 1 : 3;
    sign(false, 0, chance(1, most));
    for (int n = chance(0, 4); n > 0; n--) sign(false, below(4), chance(1, most));
    for (int n = chance(0, 3); n > 0; n--) sign(true, below(4), chance(1, most));
    sayings.add(new int[] {0, 2});
    if (below(3) == 0) same("turns", hall.turns(5), plain.turns(5));
    if (below(3) > 0) setFuel(chance(20, 300));
    else setFuel(500);
  }

  private void setFuel(int most) {
    same("fuel(" + most + ")", hall.fuel(most), plain.fuel(most));
  }

  private void term(int size, List<Integer> row) {
    if (size <= 1 || below(6) == 0) {
      if (below(2) == 0) {
        row.add(-1 - below(letters));
        return;
      }
      for (int[] f : functions) {
        if (f[1] == 0 && below(2) == 0) {
          row.add(f[0]);
          return;
        }
      }
      row.add(-1 - below(letters));
      return;
    }
    int[] f = functions.get(below(functions.size()));
    row.add(f[0]);
    for (int k = 0; k < f[1]; k++) term((size - 1 + below(2)) / f[1], row);
  }

  private List<Integer> literal() {
    int[] s = below(100) < equalities ? new int[] {0, 2} : sayings.get(below(sayings.size()));
    List<Integer> row = new ArrayList<>();
    row.add(s[0] + (below(100) < denials ? 2000 : 1000));
    for (int k = 0; k < s[1]; k++) term(chance(1, termSize), row);
    return row;
  }

  private void give() {
    List<Integer> all = new ArrayList<>();
    int many = below(40) == 0 ? below(8) : chance(1, mostLiterals);
    for (int n = 0; n < many; n++) {
      List<Integer> row = literal();
      if (row.size() <= 30 || below(10) == 0) all.addAll(row);
    }
    if (all.size() > 60 && below(20) > 0) all.clear();
    if (all.isEmpty() && below(20) > 0) return;
    if (below(25) == 0 && !all.isEmpty()) spoil(all);
    if (calls + all.size() > 480) return;
    for (int v : all) draft(v);
    given();
  }

  private void spoil(List<Integer> all) {
    int at = below(all.size());
    switch (below(3)) {
      case 0: all.remove(at); break;
      case 1: all.add(at, chance(-20, 20)); break;
      default: all.set(at, below(2) == 0 ? chance(-20, 20) : chance(998, 2020));
    }
  }

  private void ask() {
    int kept = plain.kept.size();
    int c = chance(-1, kept), d = chance(-1, kept), i = chance(-1, 3), j = chance(-1, 3), what = chance(-1, 45);
    switch (below(12)) {
      case 0: same("claim(" + c + ", " + i + ")", hall.claim(c, i + 2), plain.claim(c, i + 2)); break;
      case 1:
        same("literal(" + c + ", " + i + ", " + what + ")", hall.literal(c, i, what), plain.literal(c, i, what));
        break;
      case 2: same("step(" + c + ", " + what + ")", hall.step(c, what), plain.step(c, what)); break;
      case 3: case 4: case 5: same("judge(" + c + ")", hall.judge(c), plain.judge(c)); break;
      case 6: case 7: same("proof(" + what + ")", hall.proof(what), plain.proof(what)); break;
      case 8: same("order", hall.order(c, i, d, j), plain.order(c, i, d, j)); break;
      case 9: case 10: same("takesIn(" + c + ", " + d + ")", hall.takesIn(c, d), plain.takesIn(c, d)); break;
      default: same("count(" + what + ")", hall.count(what), plain.count(what));
    }
  }

  private void forge() {
    int kept = plain.kept.size();
    if (kept == 0) return;
    int c = below(kept);
    int what = below(3) > 0 ? chance(1, 6) : chance(-1, 45);
    int v = below(20) == 0 ? dice.nextInt() : chance(-1, below(2) == 0 ? 3 : kept);
    int was = plain.step(c, what);
    int got = (int) same("forge(" + c + ", " + what + ", " + v + ")", hall.forge(c, what, v), plain.forge(c, what, v));
    same("judge(" + c + ")", hall.judge(c), plain.judge(c));
    if (got == 1 && below(3) > 0) same("forge back", hall.forge(c, what, was), plain.forge(c, what, was));
  }

  private void play() {
    setUp();
    int rounds = chance(3, 25);
    for (int n = 0; n < rounds && calls < 440 && !wrong; n++) {
      for (int k = chance(0, 5); k > 0 && calls < 400; k--) give();
      if (below(12) == 0) setFuel(chance(0, 600));
      if (below(12) == 0) {
        int t = chance(-1, 21);
        same("turns(" + t + ")", hall.turns(t), plain.turns(t));
      }
      if (below(3) > 0) note(run(below(3) == 0 ? chance(1, 40) : chance(1, 3)));
      for (int k = below(5); k > 0; k--) ask();
      if (below(3) == 0) forge();
      same("digest()", hall.digest(), plain.digest());
      if (plain.end != 0 ? below(3) > 0 : below(60) == 0) same("clear()", hall.clear(), plain.clear());
    }
    for (int c = 0; c < plain.kept.size() && calls < 500 && !wrong; c++) {
      same("judge(" + c + ")", hall.judge(c), plain.judge(c));
    }
    same("digest()", hall.digest(), plain.digest());
    SEEN[4] += plain.lost;
    SEEN[5] += plain.atOnce;
    SEEN[6] += plain.made;
    SEEN[7] += plain.rewritten;
    SEEN[8] += plain.count(4);
  }

  private void note(int end) {
    if (end >= 0 && end < 4) SEEN[end]++;
    if (plain.kept.size() == 150) SEEN[9]++;
  }

  public static void main(String[] args) {
    long first = args.length > 0 ? Long.parseLong(args[0]) : 1;
    long last = args.length > 1 ? Long.parseLong(args[1]) : 600;
    int wrongs = 0;
    for (long seed = first; seed <= last && wrongs < 3; seed++) {
      AgainstPlainTest one = new AgainstPlainTest(seed);
      one.play();
      if (one.wrong) {
        System.out.println("seed " + seed);
        wrongs++;
      }
    }
    System.out.println("ends " + SEEN[0] + " " + SEEN[1] + " " + SEEN[2] + " " + SEEN[3] + ", lost " + SEEN[4]
        + ", at once " + SEEN[5] + ", made " + SEEN[6] + ", rewritten " + SEEN[7] + ", put away " + SEEN[8]
        + ", with 150 " + SEEN[9]);
    System.out.println(wrongs == 0 ? "all answers are as due" : "not as due");
    if (wrongs != 0) System.exit(1);
  }
}
