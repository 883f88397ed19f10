import java.util.ArrayList;
import java.util.List;
import java.util.TreeMap;

/**
 * Long runs of calls, each answer held against a model that is built in another way: it lays all intervals out on
 * a line of 2n numbers, and so has every scenario with its beginnings and ends, without any composing.
 */
public final class ModelTest {
    private static final int RUNS = 150;
    private static final int CALLS = 512;
    private static final int[] ODD_NUMBERS = {
        -1, Integer.MIN_VALUE, Integer.MAX_VALUE, 4, 5, -2, 16, 8192, 8191, 1 << 16, -8192, 23917, 1000000};

    private static int wrong = 0;
    private static long seed = 20261115L;

    /** One scenario: the relations of the pairs in the document's order, and the numbered ends. */
    private static final class Scene {
        final int[] relations;
        final int[] ends;

        Scene(int[] relations, int[] ends) {
            this.relations = relations;
            this.ends = ends;
        }
    }

    private static final Scene[][] SCENES = new Scene[5][];
    private static final int[][] COMPOSED = new int[13][13];

    public static void main(String[] args) {
        for (int n = 2; n <= 4; n++) {
            SCENES[n] = layOut(n);
        }
        fillComposed();
        checkAllSingles();
        checkEveryScenario();
        for (int run = 0; run < RUNS && wrong < 20; run++) {
            new ModelTest(run).go();
        }
        System.out.println(wrong == 0 ? "all answers are the model's" : wrong + " answers are not the model's");
        if (wrong != 0) {
            System.exit(1);
        }
    }

    private static int next(int bound) {
        seed = seed * 6364136223846793005L + 1442695040888963407L;
        return (int) ((seed >>> 33) % bound);
    }

    private static void due(String where, String call, int got, int want) {
        if (got != want) {
            wrong++;
            System.out.println(where + ": " + call + " answered " + got + ", due is " + want);
        }
    }

    /** The document's thirteen lines as they stand; just one of them must hold. */
    private static int relationOf(int bi, int ei, int bj, int ej) {
        boolean[] holds = {
            ei < bj,
            ei == bj,
            bi < bj && bj < ei && ei < ej,
            bi == bj && ei < ej,
            bi > bj && ei < ej,
            bi > bj && ei == ej,
            bi == bj && ei == ej,
            bi < bj && ei == ej,
            bi < bj && ei > ej,
            bi == bj && ei > ej,
            bj < bi && bi < ej && ej < ei,
            bi == ej,
            bi > ej};
        int found = -1;
        for (int r = 0; r < 13; r++) {
            if (holds[r]) {
                if (found >= 0) {
                    throw new IllegalStateException("two relations");
                }
                found = r;
            }
        }
        return found;
    }

    private static Scene[] layOut(int n) {
        TreeMap<Integer, Scene> scenes = new TreeMap<>();
        int[] ends = new int[2 * n];
        layOutFrom(0, n, ends, scenes);
        return scenes.values().toArray(new Scene[0]);
    }

    private static void layOutFrom(int i, int n, int[] ends, TreeMap<Integer, Scene> scenes) {
        if (i == n) {
            int[] relations = relationsOf(n, ends);
            int key = 0;
            for (int r : relations) {
                key = key * 13 + r;
            }
            if (!scenes.containsKey(key)) {
                scenes.put(key, new Scene(relations, numbered(ends)));
            }
            return;
        }
        for (int b = 0; b < 2 * n; b++) {
            for (int e = b + 1; e < 2 * n; e++) {
                ends[2 * i] = b;
                ends[2 * i + 1] = e;
                layOutFrom(i + 1, n, ends, scenes);
            }
        }
    }

    private static int[] relationsOf(int n, int[] ends) {
        int[] relations = new int[n * (n - 1) / 2];
        int at = 0;
        for (int i = 0; i < n; i++) {
            for (int j = i + 1; j < n; j++) {
                relations[at++] = relationOf(ends[2 * i], ends[2 * i + 1], ends[2 * j], ends[2 * j + 1]);
            }
        }
        return relations;
    }

    private static int[] numbered(int[] ends) {
        boolean[] used = new boolean[ends.length];
        for (int end : ends) {
            used[end] = true;
        }
        int[] result = new int[ends.length];
        for (int p = 0; p < ends.length; p++) {
            for (int q = 0; q < ends[p]; q++) {
                result[p] += used[q] ? 1 : 0;
            }
        }
        return result;
    }

    private static void fillComposed() {
        for (Scene s : SCENES[3]) {
            COMPOSED[s.relations[0]][s.relations[2]] |= 1 << s.relations[1];
        }
    }

    private static int composed(int a, int b) {
        int set = 0;
        for (int r = 0; r < 13; r++) {
            for (int s = 0; s < 13; s++) {
                if ((a & 1 << r) != 0 && (b & 1 << s) != 0) {
                    set |= COMPOSED[r][s];
                }
            }
        }
        return set;
    }

    private static void checkAllSingles() {
        for (int r = 0; r < 13; r++) {
            IntervalDesk desk = new IntervalDesk(2);
            for (int s = 0; s < 13; s++) {
                due("singles", "compose(" + (1 << r) + ", " + (1 << s) + ")", desk.compose(1 << r, 1 << s), COMPOSED[r][s]);
            }
        }
    }

    /** Every scenario of 2 and 3 intervals, and a good many of 4, by its number among all of them. */
    private static void checkEveryScenario() {
        for (int n = 2; n <= 4; n++) {
            int step = n == 4 ? 97 : 1;
            due("all scenarios", "scenarios() of " + n, new IntervalDesk(n).scenarios(), SCENES[n].length);
            for (int k = 0; k < SCENES[n].length; k += step) {
                checkScenario(n, k);
            }
            checkScenario(n, SCENES[n].length - 1);
        }
    }

    private static void checkScenario(int n, int k) {
        IntervalDesk desk = new IntervalDesk(n);
        Scene scene = SCENES[n][k];
        String where = "scenario " + k + " of " + n;
        for (int i = 0; i < n; i++) {
            due(where, "place(.., " + i + ")", desk.place(k, i), 16 * scene.ends[2 * i] + scene.ends[2 * i + 1]);
            for (int j = 0; j < n; j++) {
                if (i != j) {
                    due(where, "relation(.., " + i + ", " + j + ")", desk.relation(k, i, j), relationIn(scene, i, j));
                }
            }
        }
        due(where, "points(..)", desk.points(k), pointsOf(scene));
        due(where, "crowd(..)", desk.crowd(k), crowdOf(scene));
    }

    private static int relationIn(Scene scene, int i, int j) {
        return relationOf(scene.ends[2 * i], scene.ends[2 * i + 1], scene.ends[2 * j], scene.ends[2 * j + 1]);
    }

    private static int pointsOf(Scene scene) {
        int most = 0;
        for (int end : scene.ends) {
            most = Math.max(most, end + 1);
        }
        return most;
    }

    private static int crowdOf(Scene scene) {
        int n = scene.ends.length / 2;
        int most = 0;
        for (int group = 1; group < 1 << n; group++) {
            int from = Integer.MIN_VALUE;
            int to = Integer.MAX_VALUE;
            for (int i = 0; i < n; i++) {
                if ((group & 1 << i) != 0) {
                    from = Math.max(from, scene.ends[2 * i]);
                    to = Math.min(to, scene.ends[2 * i + 1]);
                }
            }
            if (from < to) {
                most = Math.max(most, Integer.bitCount(group));
            }
        }
        return most;
    }

    private static int mirrored(int set) {
        return Integer.reverse(set) >>> 19;
    }

    private final String where;
    private final IntervalDesk desk;
    private final int n;
    private int[][] stated;
    private final List<int[][]> pile = new ArrayList<>();
    private List<Scene> fitting;
    private Scene aim;

    private ModelTest(int run) {
        int asked = run % 10 == 0 ? ODD_NUMBERS[next(ODD_NUMBERS.length)] : 2 + next(3);
        where = "run " + run + " with " + asked;
        desk = new IntervalDesk(asked);
        n = Math.max(2, Math.min(4, asked));
        stated = new int[n][n];
        for (int[] row : stated) {
            java.util.Arrays.fill(row, 8191);
        }
        takeAim();
    }

    private void takeAim() {
        aim = SCENES[n][next(SCENES[n].length)];
    }

    private void go() {
        int calls = 0;
        while (calls + 30 < CALLS && wrong < 20) {
            int before = calls;
            calls += change();
            for (int q = next(4); q > 0; q--) {
                calls += ask();
            }
            if (before / 50 != calls / 50) {
                calls += checkStated();
            }
        }
    }

    private int interval() {
        return next(25) == 0 ? ODD_NUMBERS[next(ODD_NUMBERS.length)] : next(n);
    }

    /** Mostly sets that leave the scenario aimed at, so that runs don't soon end with none that fits. */
    private int set(int i, int j) {
        int kind = next(20);
        if (kind == 0) {
            return ODD_NUMBERS[next(ODD_NUMBERS.length)];
        }
        if (kind == 1) {
            return next(8192);
        }
        if (kind == 2 && next(4) == 0) {
            return 0;
        }
        int set = kind < 9 ? next(8192) & next(8192) : next(8192) | (kind < 14 ? 0 : next(8192));
        return goodPair(i, j) ? set | 1 << relationIn(aim, i, j) : set;
    }

    private boolean goodPair(int i, int j) {
        return i >= 0 && i < n && j >= 0 && j < n && i != j;
    }

    private static boolean goodSet(int set) {
        return set >= 0 && set < 8192;
    }

    private List<Scene> fitting() {
        if (fitting == null) {
            fitting = new ArrayList<>();
            for (Scene s : SCENES[n]) {
                if (fits(s)) {
                    fitting.add(s);
                }
            }
        }
        return fitting;
    }

    private boolean fits(Scene s) {
        int at = 0;
        for (int i = 0; i < n; i++) {
            for (int j = i + 1; j < n; j++) {
                if ((stated[i][j] & 1 << s.relations[at++]) == 0) {
                    return false;
                }
            }
        }
        return true;
    }

    private void state(int i, int j, int set) {
        stated[i][j] = set;
        stated[j][i] = mirrored(set);
        fitting = null;
    }

    private int[][] copy() {
        int[][] result = new int[n][];
        for (int i = 0; i < n; i++) {
            result[i] = stated[i].clone();
        }
        return result;
    }

    private int change() {
        int kind = next(12);
        int i = interval();
        int j = interval();
        if (kind < 6) {
            changeByLimit(i, j, set(i, j));
        } else if (kind < 8) {
            int want = goodPair(i, j) ? Integer.bitCount(stated[i][j]) : -1;
            if (want >= 0) {
                state(i, j, 8191);
            }
            due(where, "free(" + i + ", " + j + ")", desk.free(i, j), want);
        } else if (kind < 10) {
            int want = pile.size() == 6 ? -1 : pile.size() + 1;
            if (want >= 0) {
                pile.add(copy());
            }
            due(where, "push()", desk.push(), want);
        } else {
            int want = pile.size() - 1;
            if (want >= 0) {
                stated = pile.remove(want);
                fitting = null;
            }
            due(where, "pop()", desk.pop(), want);
            if (next(3) == 0) {
                takeAim();
            }
        }
        return 1;
    }

    private void changeByLimit(int i, int j, int set) {
        int want = !goodPair(i, j) ? -1 : !goodSet(set) ? -2 : Integer.bitCount(stated[i][j] & set);
        if (want >= 0) {
            state(i, j, stated[i][j] & set);
        }
        due(where, "limit(" + i + ", " + j + ", " + set + ")", desk.limit(i, j, set), want);
    }

    private int ask() {
        int kind = next(10);
        int i = interval();
        int j = interval();
        if (kind < 4) {
            askOfPair(i, j);
            return 3;
        }
        if (kind < 8) {
            askOfScenario(scenarioNumber(), i, j);
            return 4;
        }
        if (kind == 8) {
            due(where, "scenarios()", desk.scenarios(), fitting().size());
            due(where, "fewest()", desk.fewest(), fitting().stream().mapToInt(ModelTest::pointsOf).min().orElse(-2));
            return 2;
        }
        int a = set(i, j);
        int b = set(j, i);
        due(where, "compose(" + a + ", " + b + ")", desk.compose(a, b), goodSet(a) && goodSet(b) ? composed(a, b) : -2);
        return 1;
    }

    private int scenarioNumber() {
        int count = fitting().size();
        int kind = next(12);
        if (kind == 0) {
            return ODD_NUMBERS[next(ODD_NUMBERS.length)];
        }
        if (kind < 4) {
            return count - 2 + kind - 1;
        }
        return kind == 4 || count == 0 ? 0 : next(count);
    }

    private void askOfPair(int i, int j) {
        boolean good = goodPair(i, j);
        int possible = 0;
        if (good) {
            for (Scene s : fitting()) {
                possible |= 1 << relationIn(s, i, j);
            }
        }
        int set = next(3) == 0 ? set(i, j) : possible & ~(next(2) << next(13)) | next(8192) & next(8192);
        int follows = !good ? -1 : !goodSet(set) ? -2 : (possible & ~set) == 0 ? 1 : 0;
        String pair = i + ", " + j;
        due(where, "possible(" + pair + ")", desk.possible(i, j), good ? possible : -1);
        due(where, "follows(" + pair + ", " + set + ")", desk.follows(i, j, set), follows);
        due(where, "closed(" + pair + ")", desk.closed(i, j), good ? closedSets()[i][j] : -1);
    }

    /** All pairs are narrowed at once, round by round, from the sets of the round before. */
    private int[][] closedSets() {
        int[][] left = copy();
        boolean again = true;
        while (again) {
            again = false;
            int[][] after = new int[n][n];
            for (int x = 0; x < n; x++) {
                for (int z = 0; z < n; z++) {
                    after[x][z] = left[x][z];
                    for (int y = 0; y < n && x != z; y++) {
                        if (y != x && y != z) {
                            after[x][z] &= composed(left[x][y], left[y][z]);
                        }
                    }
                    again |= after[x][z] != left[x][z];
                }
            }
            left = after;
        }
        return left;
    }

    private void askOfScenario(int k, int i, int j) {
        Scene s = k >= 0 && k < fitting().size() ? fitting().get(k) : null;
        int relation = !goodPair(i, j) ? -1 : s == null ? -2 : relationIn(s, i, j);
        int place = i < 0 || i >= n ? -1 : s == null ? -2 : 16 * s.ends[2 * i] + s.ends[2 * i + 1];
        due(where, "relation(" + k + ", " + i + ", " + j + ")", desk.relation(k, i, j), relation);
        due(where, "place(" + k + ", " + i + ")", desk.place(k, i), place);
        due(where, "points(" + k + ")", desk.points(k), s == null ? -2 : pointsOf(s));
        due(where, "crowd(" + k + ")", desk.crowd(k), s == null ? -2 : crowdOf(s));
    }

    private int checkStated() {
        for (int i = 0; i < n; i++) {
            for (int j = 0; j < n; j++) {
                due(where, "stated(" + i + ", " + j + ")", desk.stated(i, j), i == j ? -1 : stated[i][j]);
            }
        }
        return n * n;
    }
}
