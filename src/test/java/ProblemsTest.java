import java.util.ArrayList;
import java.util.Arrays;
import java.util.Collections;
import java.util.HashMap;
import java.util.LinkedHashMap;
import java.util.List;
import java.util.Map;
import java.util.Random;

/**
 * Well-known axioms (groups, lattices, numbers, orders and their like), with SIGNS told in any order and of any WEIGHT,
 * on ClaimHall and on PlainHall: longer runs than those of AgainstPlainTest, with REWRITINGS that matter. Each CLAIM
 * that is KEPT is what its STEP makes.
 */
public final class ProblemsTest {
  /** SIGNS (their names and PARTS), axioms, and what may be given with these. */
  private static final String[][] SETS = {
    {"m2 i1 e0 a0 b0",
      "m(e,X)=X|m(i(X),X)=e|m(m(X,Y),Z)=m(X,m(Y,Z))|m(X,e)=X|m(X,i(X))=e|m(X,X)=e",
      "m(a,b)!=m(b,a)|i(m(a,b))!=m(i(b),i(a))|i(i(a))!=a|m(a,e)!=a|i(e)!=e"},
    {"j2 n2 a0 b0",
      "j(X,Y)=j(Y,X)|n(X,Y)=n(Y,X)|j(X,n(X,Y))=X|n(X,j(X,Y))=X|j(j(X,Y),Z)=j(X,j(Y,Z))|n(n(X,Y),Z)=n(X,n(Y,Z))"
          + "|j(X,X)=X",
      "n(a,a)!=a|j(a,n(b,a))!=a|n(a,j(b,a))!=a|j(b,a)!=j(a,b)"},
    {"p2 s0 k0 t0 x1",
      "p(p(p(s,X),Y),Z)=p(p(X,Z),p(Y,Z))|p(p(k,X),Y)=X|p(t,X)=p(X,X)",
      "p(X,x(X))!=p(x(X),p(X,x(X)))|p(p(p(s,k),k),x(k))!=x(k)|X!=p(k,X)"},
    {"o0 s1 p2 t2 L2 E1",
      "p(o,X)=X|p(s(X),Y)=s(p(X,Y))|t(o,X)=o|t(s(X),Y)=p(Y,t(X,Y))|L(o,s(X))|~L(X,Y),L(s(X),s(Y))|E(o)|~E(X),E(s(s(X)))"
          + "|s(X)!=o|s(X)!=s(Y),X=Y|~E(X),~E(s(X))",
      "~E(s(s(o)))|p(s(o),s(o))!=s(s(o))|t(s(s(o)),s(o))!=s(s(o))|~L(s(o),s(s(s(o))))|E(s(o))"},
    {"R2 Q1 a0 b0 c0 g1",
      "R(X,X)|~R(X,Y),~R(Y,Z),R(X,Z)|~R(X,Y),~R(Y,X),X=Y|R(X,Y),R(Y,X)|R(X,g(X))|~Q(X),~R(X,Y),Q(Y)|Q(a),Q(b)",
      "~R(a,g(g(a)))|~Q(b),~Q(g(b))|a!=b|R(a,b)|~Q(c)|R(b,a)"},
    {"a0 b0 c0 g1 P1 Q2 S0",
      "X=a,X=b|X=a,X=b,X=c|P(a),P(b)|~P(X),P(g(X))|g(X)=a,g(X)=b|a!=b|g(g(X))=X|Q(X,g(X)),S|~S,P(X)|~Q(X,Y),P(X),P(Y)"
          + "|~P(X),~P(g(X)),Q(X,X)",
      "~P(X)|~P(a)|~P(g(g(a)))|g(a)!=a|g(X)!=X|~Q(X,X)|~S"},
    {"p2 t2 z0 u0 n1",
      "p(X,z)=X|p(z,X)=X|t(X,u)=X|t(X,X)=X|p(X,X)=z|t(X,z)=z|p(X,Y)=p(Y,X)|t(p(X,Y),Z)=p(t(X,Z),t(Y,Z))|n(X)=p(X,u)"
          + "|n(n(X))=X",
      "n(z)!=u|n(u)!=z|t(n(X),X)!=z|p(n(X),X)!=u|t(z,u)!=z"},
    {"m3 a0 b0 i1",
      "m(X,X,Y)=Y|m(Y,X,X)=Y|m(X,Y,i(Y))=X|m(m(X,Y,Z),U,V)=m(X,Y,m(Z,U,V))|m(X,Y,X)=X|m(X,Y,Z)=m(Z,Y,X)",
      "m(a,b,a)!=a|m(a,i(b),b)!=a|m(i(a),a,b)!=b|m(a,b,b)!=m(b,b,a)"},
  };
  private static final int MOST_CALLS = 512;
  private static final int[] ENDS = new int[4];

  private final Random dice;
  private final long seed;
  private final ClaimHall hall = new ClaimHall();
  private final PlainHall plain = new PlainHall();
  private final Map<String, Integer> numbers = new HashMap<>();
  private int calls = 0;

  private ProblemsTest(long seed) {
    this.seed = seed;
    // near seeds would begin alike
    dice = new Random(seed * 0x9E3779B97F4A7C15L + 77);
  }

  private int same(String call, long got, long want) {
    calls++;
    Due.due("seed " + seed + ", call " + calls + ": " + call, got, want);
    return (int) want;
  }

  private void tellSigns(String[] signs) {
    List<String> all = new ArrayList<>(Arrays.asList(signs));
    Collections.shuffle(all, dice);
    int heaviest = dice.nextInt(3) == 0 ? 3 : 1;
    for (String one : all) {
      boolean saying = "ELPQRS".indexOf(one.charAt(0)) >= 0;
      int parts = one.charAt(1) - '0';
      int weight = 1 + dice.nextInt(heaviest);
      numbers.put(one.substring(0, 1),
          same("sign " + one, hall.sign(saying, parts, weight), plain.sign(saying, parts, weight)));
    }
  }

  /** Reads a TERM, or a SAYING with its TERMS, from the text; a name that is no SIGN's is a LETTER's. */
  private void read(String text, int[] at, List<Integer> row, Map<String, Integer> letters) {
    String name = text.substring(at[0], at[0] + 1);
    at[0]++;
    if (!numbers.containsKey(name)) {
      letters.putIfAbsent(name, letters.size());
      row.add(-1 - letters.get(name));
      return;
    }
    row.add(numbers.get(name));
    if (!text.startsWith("(", at[0])) return;
    do {
      at[0]++;
      read(text, at, row, letters);
    } while (text.charAt(at[0]) == ',');
    at[0]++;
  }

  private List<Integer> rowOf(String text) {
    List<Integer> all = new ArrayList<>();
    Map<String, Integer> letters = new LinkedHashMap<>();
    int[] at = {0};
    while (at[0] < text.length()) {
      boolean denied = text.charAt(at[0]) == '~';
      if (denied) at[0]++;
      List<Integer> left = new ArrayList<>();
      read(text, at, left, letters);
      boolean unequal = text.startsWith("!=", at[0]);
      if (unequal || text.startsWith("=", at[0])) {
        at[0] += unequal ? 2 : 1;
        List<Integer> right = new ArrayList<>();
        read(text, at, right, letters);
        boolean exchanged = dice.nextInt(4) == 0;
        all.add(unequal ? 2000 : 1000);
        all.addAll(exchanged ? right : left);
        all.addAll(exchanged ? left : right);
      } else {
        all.add((denied ? 2000 : 1000) + left.get(0));
        all.addAll(left.subList(1, left.size()));
      }
      at[0]++;
    }
    return all;
  }

  private void give(String text) {
    for (int v : rowOf(text)) same("draft(" + v + ")", hall.draft(v), plain.draft(v));
    same("given() " + text, hall.given(), plain.given());
  }

  private void setUp(String[] set) {
    tellSigns(set[0].split(" "));
    int turns = dice.nextInt(9);
    int fuel = 100 + dice.nextInt(700);
    same("turns(" + turns + ")", hall.turns(turns), plain.turns(turns));
    same("fuel(" + fuel + ")", hall.fuel(fuel), plain.fuel(fuel));
    List<String> all = new ArrayList<>();
    for (String axiom : set[1].split("\\|")) if (dice.nextInt(5) > 0) all.add(axiom);
    String[] goals = set[2].split("\\|");
    for (int n = dice.nextInt(3); n >= 0; n--) all.add(goals[dice.nextInt(goals.length)]);
    if (dice.nextInt(2) == 0) Collections.shuffle(all, dice);
    for (String text : all) give(text);
  }

  private void play() {
    String[] set = SETS[dice.nextInt(SETS.length)];
    setUp(set);
    String[] goals = set[2].split("\\|");
    while (plain.end == 0 && calls < MOST_CALLS / 2) {
      int picks = 1 + dice.nextInt(10);
      same("run(" + picks + ")", hall.run(picks), plain.run(picks));
      same("digest()", hall.digest(), plain.digest());
      if (plain.end == 0 && dice.nextInt(12) == 0) give(goals[dice.nextInt(goals.length)]);
    }
    ENDS[plain.end]++;
    int kept = plain.kept.size();
    for (int c = 0; c < kept && calls < MOST_CALLS; c++) same("judge(" + c + ")", hall.judge(c), 1);
    for (int k = 0; k <= kept && calls < MOST_CALLS; k++) same("proof(" + k + ")", hall.proof(k), plain.proof(k));
  }

  public static void main(String[] args) {
    long first = args.length > 0 ? Long.parseLong(args[0]) : 1;
    long last = args.length > 1 ? Long.parseLong(args[1]) : 60;
    for (long seed = first; seed <= last; seed++) new ProblemsTest(seed).play();
    System.out.println("ends " + Arrays.toString(ENDS));
    for (int end = 1; end < ENDS.length && last - first >= 59; end++) {
      Due.due("END " + end + " comes", ENDS[end] > 0 ? 1 : 0, 1);
    }
    Due.end("ProblemsTest");
  }
}
