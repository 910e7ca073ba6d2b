import java.util.ArrayList;
import java.util.Arrays;
import java.util.HashMap;
import java.util.LinkedHashMap;
import java.util.List;
import java.util.Map;
import java.util.TreeSet;

/**
 * The document told again as plainly as can be, with trees, lists and maps, slow and without a thought for room:
 * what ClaimHall is held against in AgainstPlainTest.
 */
final class PlainHall {
  static final int NONE = -1, BAD = -2, STATE = -3, FULL = -4;

  /** A TERM, or a SAYING with its TERMS. */
  record Term(int place, List<Term> parts) {
    boolean isLetter() { return place < 0; }
    void rows(List<Integer> row) {
      row.add(place);
      for (Term part : parts) part.rows(row);
    }
    List<Integer> row() {
      List<Integer> row = new ArrayList<>();
      rows(row);
      return row;
    }
    int length() { return row().size(); }
    Term under(Map<Integer, Term> standing) {
      if (isLetter()) return standing.getOrDefault(place, this);
      List<Term> under = new ArrayList<>();
      for (Term part : parts) under.add(part.under(standing));
      return new Term(place, under);
    }
    boolean holds(int letter) { return row().contains(letter); }
  }

  record Literal(boolean denied, Term said) {
    boolean isEqual() { return said.place() == 0; }
    Term side(int s) { return said.parts().get(s); }
    Literal under(Map<Integer, Term> standing) { return new Literal(denied, said.under(standing)); }
  }

  static final class Kept {
    List<Literal> literals;
    List<Literal> given;
    int state = 0;
    int by = NONE;
    int[] step = new int[7];
    List<int[]> rewritings = new ArrayList<>();
  }

  static final class Lost extends RuntimeException {
    private static final long serialVersionUID = 1L;
  }

  final List<int[]> signs = new ArrayList<>();
  final List<Boolean> sayings = new ArrayList<>();
  final List<Integer> drafted = new ArrayList<>();
  final List<Kept> kept = new ArrayList<>();
  int turns = 4, fuel = 2000, end = 0, picks = 0, atOnce = 0, lost = 0, made = 0, rewritten = 0;

  PlainHall() {
    signs.add(new int[] {2, 1});
    sayings.add(true);
  }

  // ---- terms

  int weight(Term t) {
    int sum = t.isLetter() ? 1 : signs.get(t.place())[1];
    for (Term part : t.parts()) sum += weight(part);
    return sum;
  }

  static Map<Integer, Integer> letters(Term t) {
    Map<Integer, Integer> many = new HashMap<>();
    for (int place : t.row()) if (place < 0) many.merge(place, 1, Integer::sum);
    return many;
  }

  boolean greater(Term s, Term t) {
    Map<Integer, Integer> in = letters(s);
    for (Map.Entry<Integer, Integer> e : letters(t).entrySet()) {
      if (e.getValue() > in.getOrDefault(e.getKey(), 0)) return false;
    }
    int ws = weight(s), wt = weight(t);
    if (ws != wt) return ws > wt;
    if (s.isLetter() || t.isLetter()) return false;
    if (s.place() != t.place()) return s.place() > t.place();
    for (int k = 0; k < s.parts().size(); k++) {
      if (!s.parts().get(k).equals(t.parts().get(k))) return greater(s.parts().get(k), t.parts().get(k));
    }
    return false;
  }

  Term read(List<Integer> row, int[] at) {
    int place = row.get(at[0]++);
    List<Term> parts = new ArrayList<>();
    if (place >= 0) for (int k = 0; k < signs.get(place)[0]; k++) parts.add(read(row, at));
    return new Term(place, parts);
  }

  Term termAt(List<Integer> row, int place) {
    return read(row, new int[] {place});
  }

  /** The WIDEST STANDING word for word, on rows of PLACES; null if there is none. */
  Map<Integer, Term> widest(Term first, Term second) {
    Map<Integer, Term> standing = new LinkedHashMap<>();
    Term a = first, b = second;
    while (true) {
      List<Integer> s = a.row(), t = b.row();
      int at = 0;
      while (at < s.size() && at < t.size() && s.get(at).equals(t.get(at))) at++;
      if (at == s.size() && at == t.size()) return standing;
      int letter;
      Term other;
      if (s.get(at) < 0) {
        letter = s.get(at);
        other = termAt(t, at);
      } else if (t.get(at) < 0) {
        letter = t.get(at);
        other = termAt(s, at);
      } else {
        return null;
      }
      if (other.holds(letter)) return null;
      Map<Integer, Term> one = Map.of(letter, other);
      a = a.under(one);
      b = b.under(one);
      for (Map.Entry<Integer, Term> e : standing.entrySet()) e.setValue(e.getValue().under(one));
      standing.put(letter, other);
    }
  }

  static boolean match(Term s, Term t, Map<Integer, Term> standing) {
    if (s.isLetter()) {
      Term there = standing.putIfAbsent(s.place(), t);
      return there == null || there.equals(t);
    }
    if (s.place() != t.place()) return false;
    for (int k = 0; k < s.parts().size(); k++) {
      if (!match(s.parts().get(k), t.parts().get(k), standing)) return false;
    }
    return true;
  }

  // ---- claims

  static List<Literal> apart(List<Literal> claim) {
    Map<Integer, Term> other = new HashMap<>();
    for (int k = 0; k < 20; k++) other.put(-1 - k, new Term(-21 - k, List.of()));
    return under(claim, other);
  }

  static List<Literal> under(List<Literal> claim, Map<Integer, Term> standing) {
    List<Literal> result = new ArrayList<>();
    for (Literal l : claim) result.add(l.under(standing));
    return result;
  }

  static List<Literal> but(List<Literal> claim, int i) {
    List<Literal> result = new ArrayList<>(claim);
    result.remove(i);
    return result;
  }

  static List<Literal> joined(List<Literal> a, List<Literal> b) {
    List<Literal> result = new ArrayList<>(a);
    result.addAll(b);
    return result;
  }

  List<Literal> clean(List<Literal> claim) {
    List<Literal> stay = new ArrayList<>();
    for (Literal l : claim) {
      Literal now = l;
      if (l.isEqual() && greater(l.side(1), l.side(0))) {
        now = new Literal(l.denied(), new Term(0, List.of(l.side(1), l.side(0))));
      }
      if (now.denied() && now.isEqual() && now.side(0).equals(now.side(1))) continue;
      if (stay.contains(now)) continue;
      stay.add(now);
    }
    Map<Integer, Term> numbers = new HashMap<>();
    for (Literal l : stay) {
      for (int place : l.said().row()) {
        if (place < 0 && !numbers.containsKey(place)) {
          numbers.put(place, new Term(-1 - numbers.size(), List.of()));
        }
      }
    }
    return under(stay, numbers);
  }

  static int lettersOf(List<Literal> claim) {
    TreeSet<Integer> all = new TreeSet<>();
    for (Literal l : claim) for (int place : l.said().row()) if (place < 0) all.add(place);
    return all.size();
  }

  static boolean trivial(List<Literal> claim) {
    for (Literal l : claim) {
      if (!l.denied() && l.isEqual() && l.side(0).equals(l.side(1))) return true;
      if (claim.contains(new Literal(!l.denied(), l.said()))) return true;
    }
    return false;
  }

  static boolean takes(List<Literal> c, List<Literal> d) {
    return c.size() <= d.size() && takes(c, d, 0, new HashMap<>());
  }

  private static boolean takes(List<Literal> c, List<Literal> d, int i, Map<Integer, Term> standing) {
    if (i == c.size()) return true;
    for (Literal l : d) {
      Map<Integer, Term> more = new HashMap<>(standing);
      if (l.denied() == c.get(i).denied() && match(c.get(i).said(), l.said(), more) && takes(c, d, i + 1, more)) {
        return true;
      }
    }
    return false;
  }

  int chosen(List<Literal> claim) {
    int best = NONE;
    for (int i = 0; i < claim.size(); i++) {
      if (claim.get(i).denied() && (best == NONE || weight(claim.get(i).said()) > weight(claim.get(best).said()))) {
        best = i;
      }
    }
    return best;
  }

  // ---- steps; null: there is no such one

  List<Literal> whole(List<Literal> claim) {
    if (claim.size() > 6) throw new Lost();
    for (Literal l : claim) if (l.said().length() > 30) throw new Lost();
    if (lettersOf(clean(claim)) > 20) throw new Lost();
    return claim;
  }

  List<Literal> make(int[] s, int below) {
    switch (s[0]) {
      case 1: return is(s[1], below) && is(s[3], below) ? clash(of(s[1]), s[2], of(s[3])) : null;
      case 2: return is(s[1], below) ? factor(of(s[1]), s[2], s[3]) : null;
      case 3: return is(s[1], below) ? drop(of(s[1])) : null;
      case 4: return is(s[1], below) && is(s[4], below) ? turn(of(s[1]), s[2], s[3], of(s[4]), s[5], s[6]) : null;
      default: return null;
    }
  }

  static boolean is(int c, int below) { return c >= 0 && c < below; }
  List<Literal> of(int c) { return kept.get(c).literals; }

  List<Literal> clash(List<Literal> p, int i, List<Literal> n) {
    if (chosen(p) != NONE || !is(i, p.size()) || chosen(n) == NONE) return null;
    List<Literal> other = apart(n);
    Map<Integer, Term> standing = widest(p.get(i).said(), other.get(chosen(n)).said());
    return standing == null ? null : whole(under(joined(but(p, i), but(other, chosen(n))), standing));
  }

  List<Literal> factor(List<Literal> p, int i, int j) {
    if (chosen(p) != NONE || !is(i, p.size()) || !is(j, p.size()) || i >= j) return null;
    Map<Integer, Term> standing = widest(p.get(i).said(), p.get(j).said());
    return standing == null ? null : whole(under(but(p, j), standing));
  }

  List<Literal> drop(List<Literal> n) {
    int i = chosen(n);
    if (i == NONE || !n.get(i).isEqual()) return null;
    Map<Integer, Term> standing = widest(n.get(i).side(0), n.get(i).side(1));
    return standing == null ? null : whole(under(but(n, i), standing));
  }

  Literal putAt(Literal l, int place, Term term) {
    List<Integer> row = l.said().row();
    List<Integer> put = new ArrayList<>(row.subList(0, place));
    put.addAll(term.row());
    put.addAll(row.subList(place + termAt(row, place).length(), row.size()));
    return new Literal(l.denied(), termAt(put, 0));
  }

  List<Literal> turn(List<Literal> p, int i, int side, List<Literal> n, int j, int place) {
    if (chosen(p) != NONE || !is(i, p.size()) || !p.get(i).isEqual() || !is(side, 2)) return null;
    if (!is(j, n.size()) || (chosen(n) != NONE && chosen(n) != j)) return null;
    List<Literal> other = apart(n);
    List<Integer> row = other.get(j).said().row();
    if (place < 1 || place >= row.size() || row.get(place) < 0) return null;
    Term l = p.get(i).side(side), r = p.get(i).side(1 - side);
    Map<Integer, Term> standing = widest(l, termAt(row, place));
    if (standing == null) return null;
    Term lNow = l.under(standing), rNow = r.under(standing);
    if (lNow.length() > 30 || rNow.length() > 30) throw new Lost();
    if (greater(rNow, lNow)) return null;
    other.set(j, putAt(other.get(j), place, r));
    return whole(under(joined(but(p, i), other), standing));
  }

  /** What stands in the row's LITERAL j behind the REWRITING; null: it is none. */
  Literal rewritten(List<Literal> claim, int r, int side, int j, int place) {
    List<Literal> rule = of(r);
    if (rule.size() != 1 || rule.get(0).denied() || !rule.get(0).isEqual() || !is(side, 2) || !is(j, claim.size())) {
      return null;
    }
    List<Integer> row = claim.get(j).said().row();
    if (place < 1 || place >= row.size() || row.get(place) < 0) return null;
    Term l = rule.get(0).side(side), other = rule.get(0).side(1 - side), there = termAt(row, place);
    Map<Integer, Term> standing = new HashMap<>();
    if (!match(l, there, standing)) return null;
    for (int letter : letters(other).keySet()) if (!l.holds(letter)) return null;
    Term now = other.under(standing);
    return greater(there, now) ? putAt(claim.get(j), place, now) : null;
  }

  int[] firstRewriting(List<Literal> claim) {
    for (int j = 0; j < claim.size(); j++) {
      for (int place = 1; place < claim.get(j).said().length(); place++) {
        for (int r = 0; r < kept.size(); r++) {
          for (int side = 0; side < 2 && kept.get(r).state != 2; side++) {
            if (rewritten(claim, r, side, j, place) != null) return new int[] {r, side, j, place};
          }
        }
      }
    }
    return null;
  }

  /** A STEP's END: the number, NONE, or -99. */
  int settle(List<Literal> start, int[] step, List<Literal> given) {
    List<Literal> now = clean(start);
    Kept it = new Kept();
    for (int n = 0; n < 8; n++) {
      int[] by = firstRewriting(now);
      if (by == null) break;
      Literal literal = rewritten(now, by[0], by[1], by[2], by[3]);
      if (literal.said().length() > 30) {
        lost++;
        return -99;
      }
      List<Literal> next = new ArrayList<>(now);
      next.set(by[2], literal);
      now = clean(next);
      it.rewritings.add(by);
      rewritten++;
    }
    boolean away = trivial(now);
    for (Kept k : kept) away |= k.state != 2 && takes(k.literals, now);
    if (away) {
      atOnce++;
      return NONE;
    }
    it.literals = now;
    it.given = given;
    it.step = step;
    for (Kept k : kept) {
      if (k.state != 2 && takes(now, k.literals)) {
        k.state = 2;
        k.by = kept.size();
      }
    }
    kept.add(it);
    if (now.isEmpty()) end = 1;
    else if (kept.size() == 150) end = 3;
    return kept.size() - 1;
  }

  // ---- the face

  int sign(boolean saying, int parts, int weight) {
    if (parts < 0 || parts > 3 || weight < 1 || weight > 9) return BAD;
    if (!kept.isEmpty()) return STATE;
    if (signs.size() == 16) return FULL;
    signs.add(new int[] {parts, weight});
    sayings.add(saying);
    return signs.size() - 1;
  }

  int draft(int v) {
    if (v < -20 || v > 3000) return BAD;
    if (drafted.size() == 200) return FULL;
    drafted.add(v);
    return drafted.size();
  }

  int given() {
    if (end != 0) return STATE;
    if (kept.size() == 150) return FULL;
    List<Literal> claim = new ArrayList<>();
    int[] at = {0};
    boolean good = true;
    while (good && at[0] < drafted.size()) {
      int head = drafted.get(at[0]);
      int saying = head >= 2000 ? head - 2000 : head - 1000;
      if (claim.size() == 6 || saying < 0 || saying >= signs.size() || !sayings.get(saying)) {
        good = false;
      } else {
        int start = at[0]++;
        List<Term> parts = new ArrayList<>();
        for (int k = 0; k < signs.get(saying)[0] && good; k++) {
          Term part = readDraft(at, start);
          good = part != null;
          parts.add(part);
        }
        if (good) claim.add(new Literal(head >= 2000, new Term(saying, parts)));
      }
    }
    drafted.clear();
    return good ? settle(claim, new int[7], claim) : -100 - at[0];
  }

  private Term readDraft(int[] at, int start) {
    if (at[0] == drafted.size() || at[0] - start >= 30) return null;
    int place = drafted.get(at[0]);
    if (place >= signs.size() || (place >= 0 && sayings.get(place))) return null;
    at[0]++;
    List<Term> parts = new ArrayList<>();
    for (int k = 0; place >= 0 && k < signs.get(place)[0]; k++) {
      Term part = readDraft(at, start);
      if (part == null) return null;
      parts.add(part);
    }
    return new Term(place, parts);
  }

  int wipe() {
    int had = drafted.size();
    drafted.clear();
    return had;
  }

  int turns(int t) {
    if (t < 0 || t > 20) return BAD;
    int was = turns;
    turns = t;
    return was;
  }

  int fuel(int most) {
    if (most < 0 || most > 4000) return BAD;
    int was = fuel;
    fuel = most;
    return was;
  }

  int run(int many) {
    if (many < 1 || many > 200) return BAD;
    for (int n = 0; n < many && end == 0; n++) pick();
    return end;
  }

  private int weightOf(Kept k) {
    int sum = 0;
    for (Literal l : k.literals) sum += weight(l.said());
    return sum;
  }

  private void pick() {
    int it = NONE;
    boolean byAge = (picks + 1) % (turns + 1) == 0;
    for (int c = 0; c < kept.size(); c++) {
      if (kept.get(c).state != 0) continue;
      if (it == NONE || (!byAge && weightOf(kept.get(c)) < weightOf(kept.get(it)))) it = c;
    }
    if (it == NONE) {
      end = 2;
      return;
    }
    picks++;
    kept.get(it).state = 1;
    for (int a = 0; a < kept.size(); a++) {
      if (kept.get(a).state != 1) continue;
      clashes(it, a, it);
      if (a != it) clashes(a, it, it);
      turnsInto(it, a, it);
      if (a != it) turnsInto(a, it, it);
    }
    for (int i = 0; i < of(it).size(); i++) {
      for (int j = i + 1; j < of(it).size(); j++) attempt(it, it, it, 2, it, i, j);
    }
    attempt(it, it, it, 3, it);
  }

  private void clashes(int p, int n, int it) {
    for (int i = 0; i < of(p).size(); i++) attempt(it, p, n, 1, p, i, n);
  }

  private void turnsInto(int p, int n, int it) {
    for (int i = 0; i < of(p).size(); i++) {
      for (int side = 0; side < 2; side++) {
        for (int j = 0; j < of(n).size(); j++) {
          for (int place = 1; place < of(n).get(j).said().length(); place++) {
            attempt(it, p, n, 4, p, i, side, n, j, place);
          }
        }
      }
    }
  }

  private void attempt(int it, int p, int n, int... step) {
    if (end != 0 || kept.get(it).state == 2 || kept.get(p).state == 2 || kept.get(n).state == 2) return;
    int[] full = Arrays.copyOf(step, 7);
    List<Literal> got = null;
    boolean gone = false;
    try {
      got = make(full, kept.size());
    } catch (Lost e) {
      gone = true;
    }
    if (got == null && !gone) return;
    if (fuel <= made + rewritten) {
      end = 3;
      return;
    }
    made++;
    if (gone) lost++;
    else settle(got, full, null);
  }

  int clear() {
    int were = kept.size();
    kept.clear();
    end = 0;
    picks = 0;
    return were;
  }

  int claim(int c, int what) {
    if (!is(c, kept.size())) return BAD;
    Kept k = kept.get(c);
    switch (what) {
      case 0: return k.literals.size();
      case 1: return weightOf(k);
      case 2: return k.state;
      case 3: return k.by;
      case 4: return chosen(k.literals);
      case 5: return lettersOf(k.literals);
      default: return BAD;
    }
  }

  int literal(int c, int i, int what) {
    if (!is(c, kept.size()) || !is(i, of(c).size())) return Integer.MIN_VALUE;
    Literal l = of(c).get(i);
    List<Integer> row = l.said().row();
    if (what == 0) return l.denied() ? 1 : 0;
    if (what == 1) return row.size();
    return is(what - 2, row.size()) ? row.get(what - 2) : Integer.MIN_VALUE;
  }

  int step(int c, int what) {
    if (!is(c, kept.size()) || what < 0) return Integer.MIN_VALUE;
    Kept k = kept.get(c);
    if (what < 7) return k.step[what];
    if (what < 10) return Integer.MIN_VALUE;
    if (what == 10) return k.rewritings.size();
    return is((what - 11) / 4, k.rewritings.size()) ? k.rewritings.get((what - 11) / 4)[(what - 11) % 4] : Integer.MIN_VALUE;
  }

  int forge(int c, int what, int v) {
    if (!is(c, kept.size())) return BAD;
    Kept k = kept.get(c);
    int has = new int[] {0, 3, 3, 1, 6}[k.step[0]];
    if (what >= 1 && what <= has) {
      k.step[what] = v;
      return 1;
    }
    if (what >= 11 && (what - 11) / 4 < k.rewritings.size()) {
      k.rewritings.get((what - 11) / 4)[(what - 11) % 4] = v;
      return 1;
    }
    return BAD;
  }

  int judge(int c) {
    if (!is(c, kept.size())) return BAD;
    Kept k = kept.get(c);
    List<Literal> now;
    try {
      now = k.step[0] == 0 ? k.given : make(k.step, c);
    } catch (Lost e) {
      return 0;
    }
    if (now == null) return 0;
    now = clean(now);
    for (int[] by : k.rewritings) {
      if (!is(by[0], c)) return 0;
      Literal literal = rewritten(now, by[0], by[1], by[2], by[3]);
      if (literal == null || literal.said().length() > 30) return 0;
      List<Literal> next = new ArrayList<>(now);
      next.set(by[2], literal);
      now = clean(next);
    }
    return now.equals(k.literals) ? 1 : 0;
  }

  int proof(int k) {
    if (end != 1) return NONE;
    TreeSet<Integer> all = new TreeSet<>();
    for (int c = 0; c < kept.size(); c++) if (of(c).isEmpty()) name(c, all);
    List<Integer> byNumber = new ArrayList<>(all);
    return is(k, byNumber.size()) ? byNumber.get(k) : NONE;
  }

  private void name(int c, TreeSet<Integer> all) {
    if (!is(c, kept.size()) || !all.add(c)) return;
    int[] s = kept.get(c).step;
    if (s[0] > 0) name(s[1], all);
    if (s[0] == 1) name(s[3], all);
    if (s[0] == 4) name(s[4], all);
    for (int[] by : kept.get(c).rewritings) name(by[0], all);
  }

  int order(int c, int i, int d, int j) {
    if (!is(c, kept.size()) || !is(d, kept.size()) || !is(i, of(c).size()) || !is(j, of(d).size())) return BAD;
    Term s = of(c).get(i).said(), t = of(d).get(j).said();
    if (s.parts().isEmpty() || t.parts().isEmpty()) return BAD;
    Term a = s.parts().get(0), b = t.parts().get(0);
    return a.equals(b) ? 2 : greater(a, b) ? 1 : greater(b, a) ? -1 : 0;
  }

  int takesIn(int c, int d) {
    if (!is(c, kept.size()) || !is(d, kept.size())) return BAD;
    return takes(of(c), of(d)) ? 1 : 0;
  }

  int count(int what) {
    int[] states = new int[3];
    for (Kept k : kept) states[k.state]++;
    int[] all = {signs.size(), kept.size(), states[0], states[1], states[2], atOnce, lost, made, rewritten, picks, end,
        drafted.size()};
    return is(what, all.length) ? all[what] : BAD;
  }

  long digest() {
    long h = 17;
    for (int what = 0; what < 12; what++) h = 31 * h + count(what);
    for (int c = 0; c < kept.size(); c++) {
      for (int what = 0; what < 6; what++) h = 31 * h + claim(c, what);
      for (int i = 0; i < of(c).size(); i++) {
        for (int what = 0; literal(c, i, what) != Integer.MIN_VALUE; what++) h = 31 * h + literal(c, i, what);
      }
      for (int what = 0; what < 7; what++) h = 31 * h + step(c, what);
      int all = 11 + 4 * step(c, 10);
      for (int what = 10; what < all; what++) h = 31 * h + step(c, what);
    }
    return h;
  }
}
