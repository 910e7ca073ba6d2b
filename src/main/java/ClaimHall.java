import java.util.Arrays;

/** A hall in which claims about things, with equality, are driven against one another. */
public final class ClaimHall {
    public static final int NONE = -1, BAD = -2, STATE = -3, FULL = -4;

    private static final int EQUAL = 0;
    private static final int MOST_SIGNS = 16;
    private static final int MOST_PARTS = 3;
    private static final int MOST_WEIGHT = 9;
    private static final int MOST_LETTERS = 20;
    private static final int MOST_PLACES = 30;
    private static final int MOST_LITERALS = 6;
    private static final int ROW_LENGTH = MOST_LITERALS * MOST_PLACES;
    private static final int MOST_DRAFT = 200;
    private static final int MOST_KEPT = 150;
    private static final int MOST_REWRITINGS = 8;
    private static final int MOST_TURNS = 20;
    private static final int MOST_FUEL = 4000;
    private static final int MOST_PICKS = 200;
    /** Far above what any loop without a bound of the document can need. */
    private static final int MANY = 1000000;

    private static final int SAID_HEAD = 1000;
    private static final int DENIED_HEAD = 2000;
    private static final int GIVEN_LOST = -99;
    private static final int GIVEN_WRONG = -100;
    private static final int LEAST = -2147483648;

    private static final int GOES_ON = 0, PROVED = 1, SATURATED = 2, SPENT = 3;
    private static final int WAITS = 0, ACTIVE = 1, AWAY = 2;
    private static final int GREATER = 1, LESS = -1, ALIKE = 2, UNSETTLED = 0;
    private static final int GIVEN = 0, CLASH = 1, FACTOR = 2, DROP = 3, TURN = 4;
    private static final int NO_STEP = 0, LOST = 1, MADE = 2;

    /** How many numbers a STEP of each KIND has. */
    private static final int[] NUMBERS = {0, 3, 3, 1, 6};
    /** Where a STEP of each KIND names its first and its second CLAIM; 0 where it names none. */
    private static final int[] FIRST_NAME = {0, 1, 1, 1, 1};
    private static final int[] SECOND_NAME = {0, 3, 0, 0, 4};
    /** The KIND and the six numbers of the longest KIND; step() tells of nothing between these and REWRITINGS. */
    private static final int STEP_ROOM = 7;
    private static final int HOW_MANY_REWRITINGS = 10;
    private static final int FIRST_REWRITING = 11;
    private static final int REWRITING_NUMBERS = 4;

    private final Signs signs = new Signs();
    private final Shelf shelf = new Shelf();
    private final int[] drafted = new int[MOST_DRAFT];
    private final Row bench = new Row();
    private final Row source = new Row();
    private final Scale scale = new Scale(signs);
    private final Standing standing = new Standing(signs);
    private final Cleaner cleaner = new Cleaner(signs, scale);
    private final Taker taker = new Taker(standing, shelf);
    private final Rewriter rewriter = new Rewriter(signs, scale, standing, shelf);
    private final Maker maker = new Maker(signs, scale, standing, shelf);
    private final Agenda agenda = new Agenda(signs, shelf);
    private int drafts = 0;
    private int turnsSet = 4;
    private int fuelSet = 2000;
    private int ending = GOES_ON;
    private int picked = 0;
    private int awayAtOnce = 0;
    private int lost = 0;
    private int made = 0;
    private int rewritten = 0;

    public ClaimHall() {
    }

    // ---- signs, claims

    public int sign(boolean saying, int parts, int weight) {
        if (parts < 0 || parts > MOST_PARTS || weight < 1 || weight > MOST_WEIGHT) {
            return BAD;
        }
        if (shelf.kept > 0) {
            return STATE;
        }
        return signs.add(saying, parts, weight);
    }

    public int draft(int v) {
        if (v < -MOST_LETTERS || v > 3000) {
            return BAD;
        }
        if (drafts >= MOST_DRAFT) {
            return FULL;
        }
        drafted[drafts] = v;
        drafts++;
        return drafts;
    }

    public int given() {
        if (ending != GOES_ON) {
            return STATE;
        }
        if (shelf.kept >= MOST_KEPT) {
            return FULL;
        }
        int wrong = readDraft();
        drafts = 0;
        if (wrong != NONE) {
            return GIVEN_WRONG - wrong;
        }
        source.copy(bench);
        return settle(MADE, agenda.asGiven());
    }

    public int wipe() {
        int had = drafts;
        drafts = 0;
        return had;
    }

    // ---- picks

    public int turns(int t) {
        if (t < 0 || t > MOST_TURNS) {
            return BAD;
        }
        int was = turnsSet;
        turnsSet = t;
        return was;
    }

    public int fuel(int most) {
        if (most < 0 || most > MOST_FUEL) {
            return BAD;
        }
        int was = fuelSet;
        fuelSet = most;
        return was;
    }

    public int run(int picks) {
        if (picks < 1 || picks > MOST_PICKS) {
            return BAD;
        }
        for (int n = 0; n < picks && ending == GOES_ON; n++) {
            agenda.begin(pick());
            for (int m = 0; m < MANY && ending == GOES_ON && agenda.next(); m++) {
                int got = maker.make(agenda.numbers, shelf.kept, bench);
                if (got != NO_STEP && hasFuel()) {
                    made++;
                    settle(got, agenda.numbers);
                }
            }
        }
        return ending;
    }

    public int clear() {
        int were = shelf.kept;
        shelf.kept = 0;
        ending = GOES_ON;
        picked = 0;
        return were;
    }

    // ---- asks

    public int claim(int c, int what) {
        Claim it = shelf.at(c);
        if (it == null) {
            return BAD;
        }
        switch (what) {
            case 0: return it.row.size;
            case 1: return it.weight;
            case 2: return it.state;
            case 3: return it.awayBy;
            case 4: return it.chosen;
            case 5: return it.letters;
            default: return BAD;
        }
    }

    public int literal(int c, int i, int what) {
        Claim it = shelf.at(c);
        if (it == null || !it.row.has(i) || what < 0) {
            return LEAST;
        }
        if (what == 0) {
            return it.row.denied[i] ? 1 : 0;
        }
        int length = it.row.length(i);
        if (what == 1) {
            return length;
        }
        return what - 2 < length ? it.row.places[it.row.starts[i] + what - 2] : LEAST;
    }

    public int step(int c, int what) {
        Claim it = shelf.at(c);
        if (it == null || what < 0) {
            return LEAST;
        }
        if (what < STEP_ROOM) {
            return it.numbers[what];
        }
        if (what == HOW_MANY_REWRITINGS) {
            return it.rewritings;
        }
        return it.hasRewritingNumber(what) ? it.rewriting[what - FIRST_REWRITING] : LEAST;
    }

    public int forge(int c, int what, int v) {
        Claim it = shelf.at(c);
        if (it == null) {
            return BAD;
        }
        if (what >= 1 && what <= NUMBERS[it.kind()]) {
            it.numbers[what] = v;
            return 1;
        }
        if (it.hasRewritingNumber(what)) {
            it.rewriting[what - FIRST_REWRITING] = v;
            return 1;
        }
        return BAD;
    }

    public int judge(int c) {
        Claim it = shelf.at(c);
        if (it == null) {
            return BAD;
        }
        if (it.kind() == GIVEN && it.source != null) {
            bench.copy(it.source);
        } else if (maker.make(it.numbers, c, bench) != MADE) {
            return 0;
        }
        if (!cleaner.clean(bench)) {
            return 0;
        }
        for (int k = 0; k < it.rewritings; k++) {
            if (!rewriter.again(it, k, c, bench)) {
                return 0;
            }
            cleaner.clean(bench);
        }
        return bench.same(it.row) ? 1 : 0;
    }

    public int proof(int k) {
        if (ending != PROVED || k < 0) {
            return NONE;
        }
        shelf.markProof();
        int ahead = 0;
        for (int c = 0; c < shelf.kept; c++) {
            if (shelf.inProof[c]) {
                if (ahead == k) {
                    return c;
                }
                ahead++;
            }
        }
        return NONE;
    }

    public int order(int c, int i, int d, int j) {
        Claim first = shelf.at(c);
        Claim second = shelf.at(d);
        if (first == null || second == null || !first.row.has(i) || !second.row.has(j)) {
            return BAD;
        }
        int s = first.row.starts[i];
        int t = second.row.starts[j];
        if (signs.partsOf(first.row.places[s]) == 0 || signs.partsOf(second.row.places[t]) == 0) {
            return BAD;
        }
        return scale.compare(first.row.places, s + 1, second.row.places, t + 1);
    }

    public int takesIn(int c, int d) {
        Claim taking = shelf.at(c);
        Claim taken = shelf.at(d);
        if (taking == null || taken == null) {
            return BAD;
        }
        return taker.takes(taking.row, taken.row) ? 1 : 0;
    }

    public int count(int what) {
        switch (what) {
            case 0: return signs.many;
            case 1: return shelf.kept;
            case 2: return shelf.inState(WAITS);
            case 3: return shelf.inState(ACTIVE);
            case 4: return shelf.inState(AWAY);
            case 5: return awayAtOnce;
            case 6: return lost;
            case 7: return made;
            case 8: return rewritten;
            case 9: return picked;
            case 10: return ending;
            case 11: return drafts;
            default: return BAD;
        }
    }

    public long digest() {
        long h = 17L;
        for (int what = 0; what <= 11; what++) {
            h = 31L * h + count(what);
        }
        for (int c = 0; c < shelf.kept; c++) {
            for (int what = 0; what <= 5; what++) {
                h = 31L * h + claim(c, what);
            }
            h = digestLiterals(h, c);
            h = digestStep(h, c);
        }
        return h;
    }

    private long digestLiterals(long before, int c) {
        long h = before;
        int size = claim(c, 0);
        for (int i = 0; i < size; i++) {
            int last = 1 + literal(c, i, 1);
            for (int what = 0; what <= last; what++) {
                h = 31L * h + literal(c, i, what);
            }
        }
        return h;
    }

    private long digestStep(long before, int c) {
        long h = before;
        for (int what = 0; what < STEP_ROOM; what++) {
            h = 31L * h + step(c, what);
        }
        int last = HOW_MANY_REWRITINGS + REWRITING_NUMBERS * step(c, HOW_MANY_REWRITINGS);
        for (int what = HOW_MANY_REWRITINGS; what <= last; what++) {
            h = 31L * h + step(c, what);
        }
        return h;
    }

    /** Reads the DRAFT onto the bench: NONE, or the place of the first number that does not fit. */
    private int readDraft() {
        bench.empty();
        int at = 0;
        for (int n = 0; n <= MOST_LITERALS && at < drafts; n++) {
            int head = drafted[at];
            boolean denies = head >= DENIED_HEAD;
            int saying = head - (denies ? DENIED_HEAD : SAID_HEAD);
            if (n == MOST_LITERALS || !signs.isSaying(saying)) {
                return at;
            }
            int end = endOfParts(at + 1, signs.partsOf(saying));
            if (end < 0) {
                return NONE - end;
            }
            drafted[at] = saying;
            bench.take(denies, drafted, at, end - at);
            at = end;
        }
        return NONE;
    }

    /** Where so many TERMS of the DRAFT end; -1 less the place of what does not fit. */
    private int endOfParts(int from, int parts) {
        int open = parts;
        int at = from;
        int last = Math.min(drafts, from + MOST_PLACES - 1);
        while (open > 0 && at < last) {
            int place = drafted[at];
            if (place >= 0 && !signs.isFunction(place)) {
                return -1 - at;
            }
            open += signs.partsOf(place) - 1;
            at++;
        }
        return open > 0 ? -1 - at : at;
    }

    /** The PICKED one, which is ACTIVE from then on; null, and the END, if none WAITS. */
    private Claim pick() {
        boolean byNumber = (picked + 1) % (turnsSet + 1) == 0;
        Claim best = null;
        for (int c = 0; c < shelf.kept; c++) {
            Claim it = shelf.at(c);
            if (it != null && it.state == WAITS) {
                if (best == null || !byNumber && it.weight < best.weight) {
                    best = it;
                }
            }
        }
        if (best == null) {
            ending = SATURATED;
        } else {
            best.state = ACTIVE;
            picked++;
        }
        return best;
    }

    /** Whether FUEL is left for a STEP; if not, that is the END. */
    private boolean hasFuel() {
        if (fuelSet > made + rewritten) {
            return true;
        }
        ending = SPENT;
        return false;
    }

    /** A STEP's END for what lies on the bench: its number, NONE, or GIVEN_LOST. */
    private int settle(int got, int[] numbers) {
        boolean fits = got != LOST && cleaner.clean(bench);
        if (fits) {
            fits = rewriter.rewrite(bench, cleaner);
            rewritten += rewriter.done;
        }
        if (!fits) {
            lost++;
            return GIVEN_LOST;
        }
        bench.mark();
        if (bench.isTrivial(signs) || taker.isTakenIn(bench)) {
            awayAtOnce++;
            return NONE;
        }
        return keep(numbers);
    }

    /** Puts what lies on the bench among the CLAIMS: its number. */
    private int keep(int[] numbers) {
        int number = shelf.kept;
        Claim it = shelf.add();
        if (it == null) {
            return NONE;
        }
        it.fill(bench, cleaner.letters, scale);
        it.tellRule(signs, scale);
        it.tellStep(numbers, rewriter, source);
        taker.putAway(it);
        if (it.row.size == 0) {
            ending = PROVED;
        } else if (shelf.kept >= MOST_KEPT) {
            ending = SPENT;
        }
        return number;
    }

    /** What is told of each SIGN. */
    private static final class Signs {
        private final boolean[] sayings = new boolean[MOST_SIGNS];
        private final int[] parts = new int[MOST_SIGNS];
        private final int[] weights = new int[MOST_SIGNS];
        int many = 1;

        Signs() {
            sayings[EQUAL] = true;
            parts[EQUAL] = 2;
            weights[EQUAL] = 1;
        }

        int add(boolean saying, int partsOfIt, int weight) {
            if (many >= MOST_SIGNS) {
                return FULL;
            }
            sayings[many] = saying;
            parts[many] = partsOfIt;
            weights[many] = weight;
            many++;
            return many - 1;
        }

        boolean isSaying(int s) {
            return s >= 0 && s < many && sayings[s];
        }

        boolean isFunction(int s) {
            return s >= 0 && s < many && !sayings[s];
        }

        int partsOf(int place) {
            return place >= 0 && place < MOST_SIGNS ? parts[place] : 0;
        }

        int weightOf(int place) {
            return place >= 0 && place < MOST_SIGNS ? weights[place] : 1;
        }

        /** The PLACE behind the TERM that begins at from. */
        int after(int[] row, int from) {
            int open = 1;
            int at = from;
            while (open > 0 && at >= 0 && at < row.length) {
                int place = row[at];
                open += place >= 0 && place < MOST_SIGNS ? parts[place] - 1 : -1;
                at++;
            }
            return at;
        }
    }

    /** The LITERALS of a CLAIM, one behind the other in one row of PLACES. */
    private static final class Row {
        final int[] places = new int[ROW_LENGTH];
        /** Literal i lies from starts[i] to ahead of starts[i + 1]. */
        final int[] starts = new int[MOST_LITERALS + 1];
        final boolean[] denied = new boolean[MOST_LITERALS];
        int size = 0;
        /** A bit for each SIGN in it, 16 higher for a SAYING that is denied: what TAKES IT IN has no other ones. */
        int marks = 0;

        void empty() {
            size = 0;
            starts[0] = 0;
        }

        boolean has(int i) {
            return i >= 0 && i < size;
        }

        int length(int i) {
            return starts[i + 1] - starts[i];
        }

        boolean isEqual(int i) {
            return has(i) && places[starts[i]] == EQUAL;
        }

        /** One LITERAL more; false if there is no room for it. */
        boolean take(boolean denies, int[] from, int at, int length) {
            if (size >= MOST_LITERALS || length > MOST_PLACES) {
                return false;
            }
            System.arraycopy(from, at, places, starts[size], length);
            denied[size] = denies;
            starts[size + 1] = starts[size] + length;
            size++;
            return true;
        }

        void remove(int i) {
            int gap = length(i);
            System.arraycopy(places, starts[i + 1], places, starts[i], starts[size] - starts[i + 1]);
            for (int k = i + 1; k < size; k++) {
                denied[k - 1] = denied[k];
                starts[k] = starts[k + 1] - gap;
            }
            size--;
        }

        /** In LITERAL i, for the PLACES from at to ahead of end, puts what is written; false if it becomes too long. */
        boolean replace(int i, int at, int end, int[] written, int length) {
            int more = length - (end - at);
            if (length(i) + more > MOST_PLACES) {
                return false;
            }
            System.arraycopy(places, end, places, end + more, starts[size] - end);
            System.arraycopy(written, 0, places, at, length);
            for (int k = i + 1; k <= size; k++) {
                starts[k] += more;
            }
            return true;
        }

        boolean saysAlike(int i, int j) {
            int length = length(i);
            return length == length(j) && alike(places, starts[i], places, starts[j], length);
        }

        boolean isTrivial(Signs signs) {
            for (int i = 0; i < size; i++) {
                if (isEqual(i) && !denied[i] && hasLikeSides(i, signs)) {
                    return true;
                }
                for (int j = 0; j < i; j++) {
                    if (denied[i] != denied[j] && saysAlike(i, j)) {
                        return true;
                    }
                }
            }
            return false;
        }

        boolean hasLikeSides(int i, Signs signs) {
            int left = starts[i] + 1;
            int right = signs.after(places, left);
            int length = right - left;
            return length == starts[i + 1] - right && alike(places, left, places, right, length);
        }

        void mark() {
            marks = 0;
            for (int i = 0; i < size; i++) {
                marks |= 1 << (places[starts[i]] + (denied[i] ? MOST_SIGNS : 0));
                for (int at = starts[i] + 1; at < starts[i + 1]; at++) {
                    if (places[at] >= 0) {
                        marks |= 1 << places[at];
                    }
                }
            }
        }

        void copy(Row other) {
            size = other.size;
            marks = other.marks;
            System.arraycopy(other.starts, 0, starts, 0, size + 1);
            System.arraycopy(other.places, 0, places, 0, starts[size]);
            for (int i = 0; i < size; i++) {
                denied[i] = other.denied[i];
            }
        }

        boolean same(Row other) {
            if (size != other.size) {
                return false;
            }
            for (int i = 0; i < size; i++) {
                if (denied[i] != other.denied[i] || starts[i + 1] != other.starts[i + 1]) {
                    return false;
                }
            }
            return alike(places, 0, other.places, 0, starts[size]);
        }
    }

    private static boolean alike(int[] s, int from, int[] t, int at, int length) {
        if (from < 0 || at < 0 || from + length > s.length || at + length > t.length) {
            return false;
        }
        for (int k = 0; k < length; k++) {
            if (s[from + k] != t[at + k]) {
                return false;
            }
        }
        return true;
    }

    /** A CLAIM that is KEPT, with its STEP. */
    private static final class Claim {
        final Row row = new Row();
        /** What was given; null where it never was of KIND 0. */
        Row source = null;
        final int[] numbers = new int[STEP_ROOM];
        final int[] rewriting = new int[REWRITING_NUMBERS * MOST_REWRITINGS];
        int rewritings = 0;
        int number = 0;
        int state = WAITS;
        int awayBy = NONE;
        int weight = 0;
        int chosen = NONE;
        int letters = 0;
        /** Whether it may rewrite: one LITERAL, a said EQUAL. */
        boolean rule = false;
        /** Of a rule, where the right side begins. */
        int right = 0;
        /** Of a rule, whether the left side is GREATER; then it is so whatever stands for the LETTERS. */
        boolean sorted = false;

        int kind() {
            int kind = numbers[0];
            return kind >= GIVEN && kind <= TURN ? kind : GIVEN;
        }

        boolean isThere() {
            return state != AWAY;
        }

        boolean isPositive() {
            return chosen == NONE;
        }

        boolean hasRewritingNumber(int what) {
            return what >= FIRST_REWRITING && what < FIRST_REWRITING + REWRITING_NUMBERS * rewritings;
        }

        void fill(Row from, int lettersOfIt, Scale scale) {
            row.copy(from);
            letters = lettersOfIt;
            state = WAITS;
            awayBy = NONE;
            chosen = NONE;
            weight = 0;
            int heaviest = 0;
            for (int i = 0; i < row.size; i++) {
                int heavy = scale.weigh(row.places, row.starts[i], row.starts[i + 1]);
                weight += heavy;
                if (row.denied[i] && heavy > heaviest) {
                    heaviest = heavy;
                    chosen = i;
                }
            }
        }

        void tellRule(Signs signs, Scale scale) {
            rule = row.size == 1 && !row.denied[0] && row.isEqual(0);
            right = rule ? signs.after(row.places, 1) : 0;
            sorted = rule && scale.compare(row.places, 1, row.places, right) == GREATER;
        }

        void tellStep(int[] from, Rewriter rewriter, Row given) {
            System.arraycopy(from, 0, numbers, 0, STEP_ROOM);
            rewritings = rewriter.done;
            System.arraycopy(rewriter.told, 0, rewriting, 0, REWRITING_NUMBERS * rewritings);
            if (kind() == GIVEN) {
                if (source == null) {
                    source = new Row();
                }
                source.copy(given);
            }
        }
    }

    /** The CLAIMS that are KEPT, by their numbers. */
    private static final class Shelf {
        private final Claim[] claims = new Claim[MOST_KEPT];
        final boolean[] inProof = new boolean[MOST_KEPT];
        private final int[] found = new int[MOST_KEPT];
        private int finds = 0;
        int kept = 0;

        Claim at(int c) {
            return c >= 0 && c < kept ? claims[c] : null;
        }

        /** The next CLAIM, not filled yet; null if there is no room. */
        Claim add() {
            if (kept >= MOST_KEPT) {
                return null;
            }
            if (claims[kept] == null) {
                claims[kept] = new Claim();
            }
            Claim it = claims[kept];
            it.number = kept;
            kept++;
            return it;
        }

        int inState(int state) {
            int many = 0;
            for (int c = 0; c < kept; c++) {
                Claim it = at(c);
                if (it != null && it.state == state) {
                    many++;
                }
            }
            return many;
        }

        /** Marks all from which the CLAIM without LITERALS comes. */
        void markProof() {
            finds = 0;
            for (int c = 0; c < MOST_KEPT; c++) {
                inProof[c] = false;
                Claim it = at(c);
                if (it != null && it.row.size == 0) {
                    find(c);
                }
            }
            for (int n = 0; n < finds && n < MOST_KEPT; n++) {
                Claim it = at(found[n]);
                if (it != null) {
                    findNamed(it);
                }
            }
        }

        private void findNamed(Claim it) {
            int kind = it.kind();
            if (FIRST_NAME[kind] > 0) {
                find(it.numbers[FIRST_NAME[kind]]);
            }
            if (SECOND_NAME[kind] > 0) {
                find(it.numbers[SECOND_NAME[kind]]);
            }
            for (int k = 0; k < it.rewritings; k++) {
                find(it.rewriting[REWRITING_NUMBERS * k]);
            }
        }

        /** A forged number may name no CLAIM, or one that was found already. */
        private void find(int c) {
            if (c >= 0 && c < kept && finds < MOST_KEPT && !inProof[c]) {
                inProof[c] = true;
                found[finds] = c;
                finds++;
            }
        }
    }

    /** Weighs TERMS and tells THE ORDER. */
    private static final class Scale {
        private final Signs signs;
        /** How much more often each LETTER stands in the first TERM than in the second. */
        private final int[] surplus = new int[2 * MOST_LETTERS];
        private int heavier = 0;
        private boolean firstMay = true;
        private boolean secondMay = true;

        Scale(Signs signs) {
            this.signs = signs;
        }

        int weigh(int[] row, int from, int to) {
            int weight = 0;
            for (int at = from; at < to; at++) {
                weight += signs.weightOf(row[at]);
            }
            return weight;
        }

        /** GREATER, LESS, ALIKE or UNSETTLED: how the TERM at from in s stands to that at behind in t. */
        int compare(int[] s, int from, int[] t, int behind) {
            int a = from;
            int b = behind;
            firstMay = true;
            secondMay = true;
            for (int depth = 0; depth < MANY; depth++) {
                int endA = signs.after(s, a);
                int endB = signs.after(t, b);
                if (endA - a == endB - b && alike(s, a, t, b, endA - a)) {
                    return ALIKE;
                }
                heavier = 0;
                tally(s, a, endA, 1);
                tally(t, b, endB, -1);
                settleSurplus(s, a, endA);
                settleSurplus(t, b, endB);
                if (heavier != 0) {
                    return settled(heavier > 0);
                }
                if (s[a] < 0 || t[b] < 0) {
                    return UNSETTLED;
                }
                if (s[a] != t[b]) {
                    return settled(s[a] > t[b]);
                }
                int like = likeParts(s, a, t, b);
                a += like;
                b += like;
            }
            return UNSETTLED;
        }

        private void tally(int[] row, int from, int to, int way) {
            for (int at = from; at < to; at++) {
                int place = row[at];
                heavier += way * signs.weightOf(place);
                if (place < 0 && -1 - place < surplus.length) {
                    surplus[-1 - place] += way;
                }
            }
        }

        /** Looks at the surplus of each LETTER there once, and leaves it at 0 for the next time. */
        private void settleSurplus(int[] row, int from, int to) {
            for (int at = from; at < to; at++) {
                int letter = -1 - row[at];
                if (letter >= 0 && letter < surplus.length) {
                    firstMay = firstMay && surplus[letter] >= 0;
                    secondMay = secondMay && surplus[letter] <= 0;
                    surplus[letter] = 0;
                }
            }
        }

        private int settled(boolean first) {
            if (first) {
                return firstMay ? GREATER : UNSETTLED;
            }
            return secondMay ? LESS : UNSETTLED;
        }

        /** How far behind the FUNCTION, the same one in both, the first PARTS begin that are unlike. */
        private int likeParts(int[] s, int a, int[] t, int b) {
            int parts = signs.partsOf(s[a]);
            int on = 1;
            for (int k = 0; k < parts; k++) {
                int endA = signs.after(s, a + on);
                int endB = signs.after(t, b + on);
                int length = endA - a - on;
                if (length != endB - b - on || !alike(s, a + on, t, b + on, length)) {
                    return on;
                }
                on += length;
            }
            return on;
        }
    }

    /** What stands for LETTERS, over two rows of which the second has 20 LETTERS of its own. */
    private static final class Standing {
        static final int SECOND = ROW_LENGTH;
        private static final int DEPTH = 128;
        private static final int ROOM = 1000;

        private final Signs signs;
        private final int[] board = new int[2 * ROW_LENGTH];
        /** For each LETTER the place on the board of what stands for it, or NONE. */
        private final int[] stands = new int[2 * MOST_LETTERS];
        private final int[] told = new int[2 * MOST_LETTERS];
        int tellings = 0;
        private final int[] firstBack = new int[DEPTH];
        private final int[] secondBack = new int[DEPTH];
        private final int[] openBack = new int[DEPTH];
        private final int[] atBack = new int[DEPTH];
        private final int[] endBack = new int[DEPTH];
        private int wayAt = 0;
        private int wayEnd = 0;
        private int wayDepth = 0;
        final int[] written = new int[ROOM];
        int length = 0;

        Standing(Signs signs) {
            this.signs = signs;
            Arrays.fill(stands, NONE);
        }

        void layFirst(Row row) {
            System.arraycopy(row.places, 0, board, 0, row.starts[row.size]);
        }

        void laySecond(Row row) {
            int end = row.starts[row.size];
            for (int at = 0; at < end; at++) {
                int place = row.places[at];
                board[SECOND + at] = place < 0 ? place - MOST_LETTERS : place;
            }
        }

        /** Takes back what stands for LETTERS, but for so many that were told first. */
        void forget(int but) {
            while (tellings > but && tellings > 0) {
                tellings--;
                stands[told[tellings]] = NONE;
            }
        }

        private void tell(int letter, int at) {
            if (letter < stands.length && tellings < told.length) {
                stands[letter] = at;
                told[tellings] = letter;
                tellings++;
            }
        }

        /** Where that is what stands at a place in the end: no LETTER, or one for which nothing stands. */
        private int resting(int at) {
            int now = at;
            for (int n = 0; n < stands.length; n++) {
                int place = board[now];
                if (place >= 0 || stands[-1 - place] == NONE) {
                    return now;
                }
                now = stands[-1 - place];
            }
            return now;
        }

        /** Tells the WIDEST STANDING of the rows at two places of the board; false if there is none. */
        boolean widen(int first, int second) {
            forget(0);
            int a = first;
            int b = second;
            int open = 1;
            int depth = 0;
            for (int n = 0; n < MANY; n++) {
                if (open == 0) {
                    if (depth == 0) {
                        return true;
                    }
                    depth--;
                    a = firstBack[depth];
                    b = secondBack[depth];
                    open = openBack[depth];
                    continue;
                }
                int u = resting(a);
                int v = resting(b);
                int place = board[u];
                if (place >= 0 && u == a && v == b && place == board[v]) {
                    open += signs.partsOf(place) - 1;
                    a++;
                    b++;
                } else if (place >= 0 && board[v] >= 0 && u != v) {
                    if (place != board[v] || depth >= DEPTH) {
                        return false;
                    }
                    firstBack[depth] = signs.after(board, a);
                    secondBack[depth] = signs.after(board, b);
                    openBack[depth] = open - 1;
                    depth++;
                    a = u;
                    b = v;
                    open = 1;
                } else {
                    if (!meet(u, v)) {
                        return false;
                    }
                    a = signs.after(board, a);
                    b = signs.after(board, b);
                    open--;
                }
            }
            return false;
        }

        /** Of two places, unlike ones with a LETTER at least: lets what is at the other one stand for it, if it may. */
        private boolean meet(int u, int v) {
            if (board[u] == board[v]) {
                return true;
            }
            boolean first = board[u] < 0;
            int letter = -1 - board[first ? u : v];
            int other = first ? v : u;
            if (isIn(letter, other)) {
                return false;
            }
            tell(letter, other);
            return true;
        }

        private boolean isIn(int letter, int from) {
            beginWay(from, signs.after(board, from));
            for (int n = 0; n < MANY; n++) {
                int at = nextOnWay();
                if (at == NONE || board[at] == -1 - letter) {
                    return at != NONE;
                }
            }
            return true;
        }

        /** Writes the PLACES from .. to as they are under the STANDING; false if more than most would be written. */
        boolean write(int from, int to, int most) {
            beginWay(from, to);
            for (int n = 0; n < MANY; n++) {
                int at = nextOnWay();
                if (at == NONE) {
                    return true;
                }
                if (length >= most || length >= ROOM) {
                    return false;
                }
                written[length] = board[at];
                length++;
            }
            return false;
        }

        private void beginWay(int from, int to) {
            wayAt = from;
            wayEnd = to;
            wayDepth = 0;
        }

        /** The next place on the way, which leads over what stands for LETTERS; NONE behind the last. */
        private int nextOnWay() {
            for (int n = 0; n < MANY; n++) {
                if (wayAt < wayEnd) {
                    int now = resting(wayAt);
                    wayAt++;
                    if (now == wayAt - 1 || board[now] < 0 || wayDepth >= DEPTH) {
                        return now;
                    }
                    atBack[wayDepth] = wayAt;
                    endBack[wayDepth] = wayEnd;
                    wayDepth++;
                    wayAt = now;
                    wayEnd = signs.after(board, now);
                } else if (wayDepth == 0) {
                    return NONE;
                } else {
                    wayDepth--;
                    wayAt = atBack[wayDepth];
                    wayEnd = endBack[wayDepth];
                }
            }
            return NONE;
        }

        /** Whether the row at s, as the second, MATCHES that at t, as the first; what stands already stays. */
        boolean matches(int[] second, int s, int[] first, int t) {
            int a = s;
            int b = t;
            int open = 1;
            while (open > 0 && a < second.length && b < first.length) {
                int place = second[a];
                if (place >= 0) {
                    if (place != first[b]) {
                        return false;
                    }
                    open += signs.partsOf(place) - 1;
                    b++;
                } else {
                    int end = signs.after(first, b);
                    int letter = MOST_LETTERS - 1 - place;
                    int there = stands[letter];
                    if (there == NONE) {
                        tell(letter, b);
                    } else if (!alike(first, there, first, b, end - b)) {
                        return false;
                    }
                    b = end;
                    open--;
                }
                a++;
            }
            return open == 0;
        }

        /** Whether something stands for each LETTER from .. to of the second row. */
        boolean isTold(int[] second, int from, int to) {
            for (int at = from; at < to; at++) {
                if (second[at] < 0 && stands[MOST_LETTERS - 1 - second[at]] == NONE) {
                    return false;
                }
            }
            return true;
        }
    }

    /** CLEANING. */
    private static final class Cleaner {
        private final Signs signs;
        private final Scale scale;
        private final int[] aside = new int[MOST_PLACES];
        private final int[] numbered = new int[2 * MOST_LETTERS];
        /** How many LETTERS the row that was cleaned last has. */
        int letters = 0;

        Cleaner(Signs signs, Scale scale) {
            this.signs = signs;
            this.scale = scale;
        }

        /** Cleans; false if there are more than 20 LETTERS. */
        boolean clean(Row row) {
            int i = 0;
            for (int n = 0; n < MOST_LITERALS && i < row.size; n++) {
                if (row.isEqual(i)) {
                    sortSides(row, i);
                }
                if (goes(row, i)) {
                    row.remove(i);
                } else {
                    i++;
                }
            }
            numberLetters(row);
            return letters <= MOST_LETTERS;
        }

        private void sortSides(Row row, int i) {
            int left = row.starts[i] + 1;
            int right = signs.after(row.places, left);
            if (scale.compare(row.places, right, row.places, left) != GREATER) {
                return;
            }
            int leftLength = right - left;
            int rightLength = row.starts[i + 1] - right;
            System.arraycopy(row.places, left, aside, 0, leftLength);
            System.arraycopy(row.places, right, row.places, left, rightLength);
            System.arraycopy(aside, 0, row.places, left + rightLength, leftLength);
        }

        private boolean goes(Row row, int i) {
            if (row.denied[i] && row.isEqual(i) && row.hasLikeSides(i, signs)) {
                return true;
            }
            for (int k = 0; k < i; k++) {
                if (row.denied[k] == row.denied[i] && row.saysAlike(k, i)) {
                    return true;
                }
            }
            return false;
        }

        private void numberLetters(Row row) {
            Arrays.fill(numbered, NONE);
            letters = 0;
            int end = row.starts[row.size];
            for (int at = 0; at < end; at++) {
                int letter = -1 - row.places[at];
                if (letter >= 0 && letter < numbered.length) {
                    if (numbered[letter] == NONE) {
                        numbered[letter] = letters;
                        letters++;
                    }
                    row.places[at] = -1 - numbered[letter];
                }
            }
        }
    }

    /** TAKING IN. */
    private static final class Taker {
        private final Standing standing;
        private final Shelf shelf;
        private final int[] tried = new int[MOST_LITERALS + 1];
        private final int[] toldAhead = new int[MOST_LITERALS + 1];

        Taker(Standing standing, Shelf shelf) {
            this.standing = standing;
            this.shelf = shelf;
        }

        /** Whether c TAKES IN d. */
        boolean takes(Row c, Row d) {
            if (c.size > d.size || (c.marks & ~d.marks) != 0) {
                return false;
            }
            standing.forget(0);
            int i = 0;
            tried[0] = 0;
            toldAhead[0] = 0;
            for (int n = 0; n < MANY && i < c.size; n++) {
                int j = tried[i];
                if (j >= d.size) {
                    if (i == 0) {
                        return false;
                    }
                    i--;
                    standing.forget(toldAhead[i]);
                } else {
                    tried[i] = j + 1;
                    if (c.denied[i] == d.denied[j]
                            && standing.matches(c.places, c.starts[i], d.places, d.starts[j])) {
                        i++;
                        tried[i] = 0;
                        toldAhead[i] = standing.tellings;
                    } else {
                        standing.forget(toldAhead[i]);
                    }
                }
            }
            return i == c.size;
        }

        boolean isTakenIn(Row row) {
            for (int c = 0; c < shelf.kept; c++) {
                Claim it = shelf.at(c);
                if (it != null && it.isThere() && takes(it.row, row)) {
                    return true;
                }
            }
            return false;
        }

        /** PUTS AWAY whatever else the CLAIM TAKES IN. */
        void putAway(Claim by) {
            for (int c = 0; c < shelf.kept; c++) {
                Claim it = shelf.at(c);
                if (it != null && it != by && it.isThere() && takes(by.row, it.row)) {
                    it.state = AWAY;
                    it.awayBy = by.number;
                }
            }
        }
    }

    /** REWRITING. */
    private static final class Rewriter {
        private final Signs signs;
        private final Scale scale;
        private final Standing standing;
        private final Shelf shelf;
        private final int[] rules = new int[2 * MOST_KEPT];
        private final int[] sides = new int[2 * MOST_KEPT];
        private final int[] heads = new int[2 * MOST_KEPT];
        private int many = 0;
        private int foundIn = 0;
        private int foundAt = 0;
        /** What was done to the row that was rewritten last: of each one r, side, j, place. */
        final int[] told = new int[REWRITING_NUMBERS * MOST_REWRITINGS];
        int done = 0;

        Rewriter(Signs signs, Scale scale, Standing standing, Shelf shelf) {
            this.signs = signs;
            this.scale = scale;
            this.standing = standing;
            this.shelf = shelf;
        }

        /** Looks for what may rewrite, which stays the same while one STEP comes to its END. */
        private void prepare() {
            done = 0;
            many = 0;
            for (int c = 0; c < shelf.kept; c++) {
                Claim it = shelf.at(c);
                if (it != null && it.isThere() && it.rule) {
                    list(it, 0);
                    if (!it.sorted) {
                        list(it, 1);
                    }
                }
            }
        }

        private void list(Claim rule, int side) {
            if (many < rules.length) {
                rules[many] = rule.number;
                sides[many] = side;
                heads[many] = rule.row.places[side == 0 ? 1 : rule.right];
                many++;
            }
        }

        /** Rewrites a clean row as often as may be; false if it would become too long. */
        boolean rewrite(Row row, Cleaner cleaner) {
            prepare();
            for (int n = 0; n < MOST_REWRITINGS && findFirst(row); n++) {
                if (!replace(row, foundIn, foundAt)) {
                    return false;
                }
                done++;
                cleaner.clean(row);
            }
            return true;
        }

        /** Looks for the first REWRITING there is, and tells it behind those that were done. */
        private boolean findFirst(Row row) {
            for (int j = 0; j < row.size && many > 0; j++) {
                for (int at = row.starts[j] + 1; at < row.starts[j + 1]; at++) {
                    int place = row.places[at];
                    for (int k = 0; k < many && place >= 0; k++) {
                        if ((heads[k] < 0 || heads[k] == place) && fits(rules[k], sides[k], row, at)) {
                            note(k, row, j, at);
                            return true;
                        }
                    }
                }
            }
            return false;
        }

        private void note(int k, Row row, int j, int at) {
            foundIn = j;
            foundAt = at;
            int to = REWRITING_NUMBERS * done;
            if (to + 3 < told.length) {
                told[to] = rules[k];
                told[to + 1] = sides[k];
                told[to + 2] = j;
                told[to + 3] = at - row.starts[j];
            }
        }

        /** Puts what fits() wrote for the TERM. */
        private boolean replace(Row row, int j, int at) {
            return row.replace(j, at, signs.after(row.places, at), standing.written, standing.length);
        }

        /** Whether a side of CLAIM r rewrites the TERM at a place of the row; writes what stands there then. */
        private boolean fits(int r, int side, Row row, int at) {
            Claim it = shelf.at(r);
            if (it == null || !it.rule) {
                return false;
            }
            int[] places = it.row.places;
            int l = side == 0 ? 1 : it.right;
            int other = side == 0 ? it.right : 1;
            int end = side == 0 ? it.row.starts[1] : it.right;
            standing.forget(0);
            if (!standing.matches(places, l, row.places, at) || !standing.isTold(places, other, end)) {
                return false;
            }
            standing.layFirst(row);
            standing.laySecond(it.row);
            standing.length = 0;
            return standing.write(Standing.SECOND + other, Standing.SECOND + end, Standing.ROOM)
                    && (it.sorted && side == 0 || scale.compare(row.places, at, standing.written, 0) == GREATER);
        }

        /** Does REWRITING k of the CLAIM again, by CLAIMS with numbers below; false if it is none. */
        boolean again(Claim it, int k, int below, Row row) {
            int from = REWRITING_NUMBERS * k;
            if (from < 0 || from + 3 >= it.rewriting.length) {
                return false;
            }
            int r = it.rewriting[from];
            int side = it.rewriting[from + 1];
            int j = it.rewriting[from + 2];
            int place = it.rewriting[from + 3];
            if (r >= below || side < 0 || side > 1 || !row.has(j) || place < 1 || place >= row.length(j)) {
                return false;
            }
            int at = row.starts[j] + place;
            if (row.places[at] < 0) {
                return false;
            }
            return fits(r, side, row, at) && replace(row, j, at);
        }
    }

    /** Makes STEPS, as their numbers tell. */
    private static final class Maker {
        private final Signs signs;
        private final Scale scale;
        private final Standing standing;
        private final Shelf shelf;

        Maker(Signs signs, Scale scale, Standing standing, Shelf shelf) {
            this.signs = signs;
            this.scale = scale;
            this.standing = standing;
            this.shelf = shelf;
        }

        /** Makes a STEP from CLAIMS with numbers below, not cleaned yet: NO_STEP, LOST or MADE. */
        int make(int[] numbers, int below, Row out) {
            int kind = numbers[0];
            if (kind < CLASH || kind > TURN) {
                return NO_STEP;
            }
            int p = numbers[FIRST_NAME[kind]];
            int n = SECOND_NAME[kind] > 0 ? numbers[SECOND_NAME[kind]] : p;
            Claim first = p < below ? shelf.at(p) : null;
            Claim second = n < below ? shelf.at(n) : null;
            if (first == null || second == null) {
                return NO_STEP;
            }
            out.empty();
            switch (kind) {
                case CLASH: return makeClash(first, numbers[2], second, out);
                case FACTOR: return makeFactor(first, numbers[2], numbers[3], out);
                case DROP: return makeDrop(first, out);
                default: return makeTurn(first, second, numbers, out);
            }
        }

        private int makeClash(Claim p, int i, Claim n, Row out) {
            if (!p.isPositive() || !p.row.has(i) || !n.row.has(n.chosen)) {
                return NO_STEP;
            }
            int said = p.row.starts[i];
            int denied = n.row.starts[n.chosen];
            if (p.row.places[said] != n.row.places[denied]) {
                return NO_STEP;
            }
            standing.layFirst(p.row);
            standing.laySecond(n.row);
            if (!standing.widen(said, Standing.SECOND + denied)) {
                return NO_STEP;
            }
            return writeAllBut(p.row, i, 0, out) && writeAllBut(n.row, n.chosen, Standing.SECOND, out) ? MADE : LOST;
        }

        private int makeFactor(Claim p, int i, int j, Row out) {
            if (!p.isPositive() || !p.row.has(i) || !p.row.has(j) || i >= j) {
                return NO_STEP;
            }
            standing.layFirst(p.row);
            if (!standing.widen(p.row.starts[i], p.row.starts[j])) {
                return NO_STEP;
            }
            return writeAllBut(p.row, j, 0, out) ? MADE : LOST;
        }

        private int makeDrop(Claim n, Row out) {
            if (!n.row.isEqual(n.chosen)) {
                return NO_STEP;
            }
            int left = n.row.starts[n.chosen] + 1;
            standing.layFirst(n.row);
            if (!standing.widen(left, signs.after(n.row.places, left))) {
                return NO_STEP;
            }
            return writeAllBut(n.row, n.chosen, 0, out) ? MADE : LOST;
        }

        private int makeTurn(Claim p, Claim n, int[] numbers, Row out) {
            int i = numbers[2];
            int side = numbers[3];
            int j = numbers[5];
            int place = numbers[6];
            if (!p.isPositive() || !p.row.isEqual(i) || side < 0 || side > 1) {
                return NO_STEP;
            }
            if (!n.row.has(j) || !n.isPositive() && n.chosen != j || place < 1 || place >= n.row.length(j)) {
                return NO_STEP;
            }
            int at = n.row.starts[j] + place;
            if (n.row.places[at] < 0) {
                return NO_STEP;
            }
            int left = p.row.starts[i] + 1;
            int right = signs.after(p.row.places, left);
            int l = side == 0 ? left : right;
            int r = side == 0 ? right : left;
            standing.layFirst(p.row);
            standing.laySecond(n.row);
            if (!standing.widen(l, Standing.SECOND + at)) {
                return NO_STEP;
            }
            int rEnd = signs.after(p.row.places, r);
            int size = sidesUnderIt(l, signs.after(p.row.places, l), r, rEnd);
            if (size != MADE) {
                return size;
            }
            return writeAllBut(p.row, i, 0, out) && writeTurned(n.row, j, at, r, rEnd, out) ? MADE : LOST;
        }

        /** LOST if a side becomes too long, NO_STEP if r is GREATER than l then; else MADE. */
        private int sidesUnderIt(int l, int lEnd, int r, int rEnd) {
            standing.length = 0;
            if (!standing.write(l, lEnd, MOST_PLACES)) {
                return LOST;
            }
            int second = standing.length;
            if (!standing.write(r, rEnd, second + MOST_PLACES)) {
                return LOST;
            }
            return scale.compare(standing.written, second, standing.written, 0) == GREATER ? NO_STEP : MADE;
        }

        /** The LITERALS of a row but one under the STANDING; false if there are too many, or one is too long. */
        private boolean writeAllBut(Row row, int but, int shift, Row out) {
            for (int i = 0; i < row.size; i++) {
                if (i != but) {
                    standing.length = 0;
                    if (!standing.write(shift + row.starts[i], shift + row.starts[i + 1], MOST_PLACES)
                            || !out.take(row.denied[i], standing.written, 0, standing.length)) {
                        return false;
                    }
                }
            }
            return true;
        }

        /** All LITERALS of the second row, in j what lies from r to rEnd for the TERM at a place. */
        private boolean writeTurned(Row row, int j, int at, int r, int rEnd, Row out) {
            int shift = Standing.SECOND;
            int behind = shift + signs.after(row.places, at);
            for (int i = 0; i < row.size; i++) {
                int from = shift + row.starts[i];
                int to = shift + row.starts[i + 1];
                standing.length = 0;
                boolean written = i != j ? standing.write(from, to, MOST_PLACES)
                        : standing.write(from, shift + at, MOST_PLACES)
                        && standing.write(r, rEnd, MOST_PLACES)
                        && standing.write(behind, to, MOST_PLACES);
                if (!written || !out.take(row.denied[i], standing.written, 0, standing.length)) {
                    return false;
                }
            }
            return true;
        }
    }

    /** Tells one by one which STEPS are to be tried with the PICKED one. */
    private static final class Agenda {
        private static final int CLASHES = 0, CLASHES_BACK = 1, TURNS = 2, TURNS_BACK = 3;
        private static final int FACTORS = 4, DROPS = 5, OVER = 6;

        private final Signs signs;
        private final Shelf shelf;
        /** The KIND of the STEP to be tried and its numbers. */
        final int[] numbers = new int[STEP_ROOM];
        private Claim it = null;
        private int partner = 0;
        private int phase = OVER;
        private Claim from = null;
        private Claim into = null;
        private int i = 0;
        private int side = 0;
        private int j = 0;
        private int place = 0;

        Agenda(Signs signs, Shelf shelf) {
            this.signs = signs;
            this.shelf = shelf;
        }

        int[] asGiven() {
            Arrays.fill(numbers, 0);
            return numbers;
        }

        void begin(Claim picked) {
            it = picked;
            partner = NONE;
            phase = TURNS_BACK;
            from = null;
            into = null;
        }

        /** Goes on to the next STEP to be tried; false behind the last. */
        boolean next() {
            for (int n = 0; n < MANY; n++) {
                if (it == null || !it.isThere() || phase == OVER) {
                    return false;
                }
                if (from != null && into != null && from.isThere() && into.isThere() && advance()) {
                    tell();
                    return true;
                }
                nextPhase();
            }
            return false;
        }

        private void nextPhase() {
            phase++;
            if (phase == FACTORS) {
                partner++;
                if (partner < shelf.kept) {
                    phase = CLASHES;
                }
            }
            Claim other = phase < FACTORS ? shelf.at(partner) : it;
            boolean back = phase == CLASHES_BACK || phase == TURNS_BACK;
            if (other == null || other.state != ACTIVE || back && other == it) {
                from = null;
                into = null;
            } else {
                from = back ? other : it;
                into = back ? it : other;
            }
            i = phase == CLASHES || phase == CLASHES_BACK ? NONE : 0;
            side = 0;
            j = phase == FACTORS || into == null || into.isPositive() ? 0 : into.chosen;
            place = 0;
        }

        private boolean advance() {
            switch (phase) {
                case CLASHES:
                case CLASHES_BACK:
                    i++;
                    return from.isPositive() && !into.isPositive() && i < from.row.size;
                case TURNS:
                case TURNS_BACK:
                    return from.isPositive() && advanceTurn();
                case FACTORS:
                    return from.isPositive() && advanceFactor();
                default:
                    place++;
                    return place == 1 && !from.isPositive();
            }
        }

        private boolean advanceFactor() {
            j++;
            if (j >= from.row.size) {
                i++;
                j = i + 1;
            }
            return j < from.row.size;
        }

        private boolean advanceTurn() {
            int firstJ = into.isPositive() ? 0 : into.chosen;
            int lastJ = into.isPositive() ? into.row.size - 1 : into.chosen;
            place++;
            while (i < from.row.size) {
                while (side < 2 && from.row.isEqual(i)) {
                    while (j <= lastJ) {
                        if (findPlace()) {
                            return true;
                        }
                        j++;
                        place = 1;
                    }
                    side++;
                    j = firstJ;
                    place = 1;
                }
                i++;
                side = 0;
                j = firstJ;
                place = 1;
            }
            return false;
        }

        /** Goes on to a place where the side could stand, judged by its FUNCTION alone. */
        private boolean findPlace() {
            int left = from.row.starts[i] + 1;
            int head = from.row.places[side == 0 ? left : signs.after(from.row.places, left)];
            int start = into.row.starts[j];
            int length = into.row.length(j);
            while (place < length) {
                int there = into.row.places[start + place];
                if (there >= 0 && (head < 0 || head == there)) {
                    return true;
                }
                place++;
            }
            return false;
        }

        private void tell() {
            Arrays.fill(numbers, 0);
            numbers[1] = from.number;
            switch (phase) {
                case CLASHES:
                case CLASHES_BACK:
                    numbers[0] = CLASH;
                    numbers[2] = i;
                    numbers[3] = into.number;
                    break;
                case TURNS:
                case TURNS_BACK:
                    numbers[0] = TURN;
                    numbers[2] = i;
                    numbers[3] = side;
                    numbers[4] = into.number;
                    numbers[5] = j;
                    numbers[6] = place;
                    break;
                case FACTORS:
                    numbers[0] = FACTOR;
                    numbers[2] = i;
                    numbers[3] = j;
                    break;
                default:
                    numbers[0] = DROP;
                    break;
            }
        }
    }
}
