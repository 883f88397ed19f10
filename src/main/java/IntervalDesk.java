/**
 * How a few intervals may lie to one another: what is stated of pairs of them,
 * all ways in which that can be, and what follows.
 */
public final class IntervalDesk {
    private static final int RELATIONS = 13;
    private static final int LAST_RELATION = 12;
    private static final int SAME = 6;
    private static final int ALL_RELATIONS = 8191;

    private static final int LEAST_INTERVALS = 2;
    private static final int MOST_INTERVALS = 4;
    private static final int CELLS = 16;
    private static final int MOST_PAIRS = 6;
    private static final int MOST_KEPT = 6;
    private static final int PILE_CELLS = 96;

    private static final int TABLE_CELLS = 169;
    private static final int MODEL_CELLS = 26;

    private static final int BAD_INTERVALS = -1;
    private static final int BAD_PILE = -1;
    private static final int BAD_SET = -2;
    private static final int NO_SCENARIO = -2;

    // Three intervals have at most six different ends, so six numbers show every way they can lie.
    private static final int TRIPLE_NUMBERS = 6;

    // Before, between and after the ends of the model interval there is room for two ends more.
    private static final int MODEL_BEGINNING = 2;
    private static final int MODEL_END = 5;
    private static final int MODEL_NUMBERS = 8;

    // Four intervals have 23917 scenarios and the search takes under 100000 steps for all of them.
    private static final int SEARCH_BOUND = 1000000;

    // Each round but the last drops a relation, and six pairs have but 78 of them.
    private static final int CLOSING_ROUNDS = 100;

    private final int n;
    private final int pairs;
    private int kept;
    private int depth;

    private final int[] allowed = new int[CELLS];
    private final int[] pile = new int[PILE_CELLS];
    private final int[] left = new int[CELLS];

    private final int[] table = new int[TABLE_CELLS];
    private final int[] modelEnds = new int[MODEL_CELLS];

    private final int[] pairFirst = new int[MOST_PAIRS];
    private final int[] pairSecond = new int[MOST_PAIRS];
    private final int[] untried = new int[MOST_PAIRS];
    private final int[] scenario = new int[CELLS];

    public IntervalDesk(int intervals) {
        n = clampIntervals(intervals);
        pairs = n * (n - 1) / 2;
        stateEverything();
        listPairs();
        fillTable();
        fillModel();
    }

    public int limit(int i, int j, int set) {
        if (!areIntervals(i, j)) {
            return BAD_INTERVALS;
        }
        if (!isSet(set)) {
            return BAD_SET;
        }
        int stays = allowed[cell(i, j)] & set;
        state(i, j, stays);
        return sizeOf(stays);
    }

    public int free(int i, int j) {
        if (!areIntervals(i, j)) {
            return BAD_INTERVALS;
        }
        int before = allowed[cell(i, j)];
        state(i, j, ALL_RELATIONS);
        return sizeOf(before);
    }

    public int push() {
        if (kept >= MOST_KEPT) {
            return BAD_PILE;
        }
        for (int c = 0; c < CELLS; c++) {
            pile[kept * CELLS + c] = allowed[c];
        }
        kept++;
        return kept;
    }

    public int pop() {
        if (kept <= 0) {
            return BAD_PILE;
        }
        kept--;
        for (int c = 0; c < CELLS; c++) {
            allowed[c] = pile[kept * CELLS + c];
        }
        return kept;
    }

    public int stated(int i, int j) {
        if (!areIntervals(i, j)) {
            return BAD_INTERVALS;
        }
        return allowed[cell(i, j)];
    }

    public int scenarios() {
        int count = 0;
        startSearch();
        while (count < SEARCH_BOUND && nextScenario()) {
            count++;
        }
        return count;
    }

    public int possible(int i, int j) {
        if (!areIntervals(i, j)) {
            return BAD_INTERVALS;
        }
        return relationsFound(i, j);
    }

    public int follows(int i, int j, int set) {
        if (!areIntervals(i, j)) {
            return BAD_INTERVALS;
        }
        if (!isSet(set)) {
            return BAD_SET;
        }
        int outside = relationsFound(i, j) & ~set;
        return outside == 0 ? 1 : 0;
    }

    public int relation(int k, int i, int j) {
        if (!areIntervals(i, j)) {
            return BAD_INTERVALS;
        }
        if (!findScenario(k)) {
            return NO_SCENARIO;
        }
        return scenario[cell(i, j)];
    }

    public int points(int k) {
        if (!findScenario(k)) {
            return NO_SCENARIO;
        }
        return countNumbers();
    }

    public int place(int k, int i) {
        if (!isInterval(i)) {
            return BAD_INTERVALS;
        }
        if (!findScenario(k)) {
            return NO_SCENARIO;
        }
        int beginning = numberOf(2 * i);
        int end = numberOf(2 * i + 1);
        return 16 * beginning + end;
    }

    public int crowd(int k) {
        if (!findScenario(k)) {
            return NO_SCENARIO;
        }
        // A stretch shared by the most intervals can be taken right after the last of their beginnings.
        int most = 0;
        for (int i = 0; i < n; i++) {
            int here = countAfterBeginning(i);
            if (here > most) {
                most = here;
            }
        }
        return most;
    }

    public int fewest() {
        int least = NO_SCENARIO;
        startSearch();
        for (int seen = 0; seen < SEARCH_BOUND && nextScenario(); seen++) {
            int here = countNumbers();
            if (least == NO_SCENARIO || here < least) {
                least = here;
            }
        }
        return least;
    }

    public int compose(int a, int b) {
        if (!isSet(a) || !isSet(b)) {
            return BAD_SET;
        }
        return composeSets(a, b);
    }

    public int closed(int i, int j) {
        if (!areIntervals(i, j)) {
            return BAD_INTERVALS;
        }
        for (int c = 0; c < CELLS; c++) {
            left[c] = allowed[c];
        }
        boolean dropped = true;
        for (int round = 0; round < CLOSING_ROUNDS && dropped; round++) {
            dropped = dropFromAll();
        }
        return left[cell(i, j)];
    }

    private static int clampIntervals(int intervals) {
        if (intervals < LEAST_INTERVALS) {
            return LEAST_INTERVALS;
        }
        if (intervals > MOST_INTERVALS) {
            return MOST_INTERVALS;
        }
        return intervals;
    }

    // The cells of an interval to itself are the same relation, so that ends of one interval compare like any others.
    private void stateEverything() {
        for (int c = 0; c < CELLS; c++) {
            allowed[c] = ALL_RELATIONS;
            scenario[c] = SAME;
        }
    }

    // The order of the pairs is the one by which scenarios are ordered.
    private void listPairs() {
        int pair = 0;
        for (int i = 0; i < n; i++) {
            for (int j = i + 1; j < n; j++) {
                pairFirst[pair] = i;
                pairSecond[pair] = j;
                pair++;
            }
        }
    }

    private void fillTable() {
        for (int b = 0; b < TRIPLE_NUMBERS; b++) {
            for (int e = b + 1; e < TRIPLE_NUMBERS; e++) {
                fillTableAround(b, e);
            }
        }
    }

    private void fillTableAround(int yb, int ye) {
        for (int xb = 0; xb < TRIPLE_NUMBERS; xb++) {
            for (int xe = xb + 1; xe < TRIPLE_NUMBERS; xe++) {
                int first = relationOf(xb, xe, yb, ye);
                for (int zb = 0; zb < TRIPLE_NUMBERS; zb++) {
                    for (int ze = zb + 1; ze < TRIPLE_NUMBERS; ze++) {
                        int second = relationOf(yb, ye, zb, ze);
                        int third = relationOf(xb, xe, zb, ze);
                        table[first * RELATIONS + second] |= 1 << third;
                    }
                }
            }
        }
    }

    // For each relation an interval that has it to the model interval: where its ends lie tells how ends compare.
    private void fillModel() {
        for (int b = 0; b < MODEL_NUMBERS; b++) {
            for (int e = b + 1; e < MODEL_NUMBERS; e++) {
                int r = relationOf(b, e, MODEL_BEGINNING, MODEL_END);
                modelEnds[2 * r] = b;
                modelEnds[2 * r + 1] = e;
            }
        }
    }

    private static int relationOf(int bi, int ei, int bj, int ej) {
        if (ei < bj) {
            return 0;
        }
        if (ei == bj) {
            return 1;
        }
        if (bi > ej) {
            return 12;
        }
        if (bi == ej) {
            return 11;
        }
        if (bi < bj) {
            return byEnds(ei, ej, 2, 7, 8);
        }
        if (bi == bj) {
            return byEnds(ei, ej, 3, 6, 9);
        }
        return byEnds(ei, ej, 4, 5, 10);
    }

    private static int byEnds(int ei, int ej, int ifLess, int ifEqual, int ifGreater) {
        if (ei < ej) {
            return ifLess;
        }
        return ei == ej ? ifEqual : ifGreater;
    }

    private boolean isInterval(int i) {
        return i >= 0 && i < n;
    }

    private boolean areIntervals(int i, int j) {
        return isInterval(i) && isInterval(j) && i != j;
    }

    private static boolean isSet(int set) {
        return set >= 0 && set <= ALL_RELATIONS;
    }

    private static int cell(int i, int j) {
        return i * MOST_INTERVALS + j;
    }

    private static int sizeOf(int set) {
        int size = 0;
        for (int r = 0; r < RELATIONS; r++) {
            size += (set >> r) & 1;
        }
        return size;
    }

    private static int mirror(int set) {
        int mirrored = 0;
        for (int r = 0; r < RELATIONS; r++) {
            mirrored |= ((set >> r) & 1) << (LAST_RELATION - r);
        }
        return mirrored;
    }

    private static int leastOf(int set) {
        int least = 0;
        while (least < LAST_RELATION && ((set >> least) & 1) == 0) {
            least++;
        }
        return least;
    }

    private void state(int i, int j, int set) {
        allowed[cell(i, j)] = set;
        allowed[cell(j, i)] = mirror(set);
    }

    private int composeSets(int a, int b) {
        int result = 0;
        for (int r = 0; r < RELATIONS; r++) {
            for (int s = 0; s < RELATIONS; s++) {
                if (((a >> r) & 1) == 1 && ((b >> s) & 1) == 1) {
                    result |= table[r * RELATIONS + s];
                }
            }
        }
        return result;
    }

    private boolean dropFromAll() {
        boolean dropped = false;
        for (int x = 0; x < n; x++) {
            for (int y = 0; y < n; y++) {
                for (int z = 0; z < n; z++) {
                    if (x != y && y != z && x != z && dropThrough(x, y, z)) {
                        dropped = true;
                    }
                }
            }
        }
        return dropped;
    }

    private boolean dropThrough(int x, int y, int z) {
        int toMiddle = left[cell(x, y)];
        int fromMiddle = left[cell(y, z)];
        int before = left[cell(x, z)];
        int after = before & composeSets(toMiddle, fromMiddle);
        left[cell(x, z)] = after;
        left[cell(z, x)] = mirror(after);
        return after != before;
    }

    private void startSearch() {
        depth = 0;
        openPair();
    }

    // Single relations that agree in every three intervals are a scenario, so no more than triples is looked at;
    // the triple of m, i and j is looked at where its last pair is opened.
    private void openPair() {
        int i = pairFirst[depth];
        int j = pairSecond[depth];
        int set = allowed[cell(i, j)];
        for (int m = 0; m < i; m++) {
            int toMiddle = scenario[cell(i, m)];
            int fromMiddle = scenario[cell(m, j)];
            set &= table[toMiddle * RELATIONS + fromMiddle];
        }
        untried[depth] = set;
    }

    private void tryLeast() {
        int i = pairFirst[depth];
        int j = pairSecond[depth];
        int r = leastOf(untried[depth]);
        untried[depth] &= ~(1 << r);
        scenario[cell(i, j)] = r;
        scenario[cell(j, i)] = LAST_RELATION - r;
    }

    // Goes on from where the search stands, so that one call after another gives the scenarios in their order.
    private boolean nextScenario() {
        for (int step = 0; step < SEARCH_BOUND; step++) {
            if (untried[depth] == 0) {
                if (depth == 0) {
                    return false;
                }
                depth--;
            } else {
                tryLeast();
                if (depth == pairs - 1) {
                    return true;
                }
                depth++;
                openPair();
            }
        }
        return false;
    }

    private boolean findScenario(int k) {
        if (k < 0 || k >= SEARCH_BOUND) {
            return false;
        }
        startSearch();
        for (int at = 0; at <= k; at++) {
            if (!nextScenario()) {
                return false;
            }
        }
        return true;
    }

    private int relationsFound(int i, int j) {
        int found = 0;
        startSearch();
        for (int seen = 0; seen < SEARCH_BOUND && nextScenario(); seen++) {
            found |= 1 << scenario[cell(i, j)];
        }
        return found;
    }

    // Below, 2 * i stands for the beginning of i and 2 * i + 1 for its end.

    // Less than, equal to or greater than 0, as p is against q in the scenario found.
    private int compareEnds(int p, int q) {
        int r = scenario[cell(p >> 1, q >> 1)];
        int other = (q & 1) == 0 ? MODEL_BEGINNING : MODEL_END;
        return modelEnds[2 * r + (p & 1)] - other;
    }

    private boolean isFirstOfItsNumber(int p) {
        for (int q = 0; q < p; q++) {
            if (compareEnds(q, p) == 0) {
                return false;
            }
        }
        return true;
    }

    private int countNumbers() {
        int count = 0;
        for (int p = 0; p < 2 * n; p++) {
            if (isFirstOfItsNumber(p)) {
                count++;
            }
        }
        return count;
    }

    private int numberOf(int p) {
        int number = 0;
        for (int q = 0; q < 2 * n; q++) {
            if (compareEnds(q, p) < 0 && isFirstOfItsNumber(q)) {
                number++;
            }
        }
        return number;
    }

    private int countAfterBeginning(int i) {
        int count = 0;
        for (int j = 0; j < n; j++) {
            if (compareEnds(2 * j, 2 * i) <= 0 && compareEnds(2 * j + 1, 2 * i) > 0) {
                count++;
            }
        }
        return count;
    }
}
