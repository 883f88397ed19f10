import java.util.ArrayList;
import java.util.List;
import java.util.function.ToIntFunction;

/** The boundary cases that the document names under "What it is" and "Terms", a method for each sentence. */
public final class TermsEdgesTest {
    private static final int ALL = 8191;
    private static final int LEAST = Integer.MIN_VALUE;
    private static final int MOST = Integer.MAX_VALUE;
    private static final int CALLS = 512;
    private static final int[] SCENARIOS = {0, 0, 13, 409, 23917};

    // Among them numbers that would fall on good cells if an index of i times 4 were let to wrap around.
    private static final int[] NUMBERS = {
        LEAST, LEAST + 1, -(1 << 30), -4, -1, 0, 1, 2, 3, 4, 5, 7, 16, 1 << 30, (1 << 30) + 1, MOST - 1, MOST};
    private static final int[] NO_SETS = {LEAST, LEAST + 1, -8192, -8191, -1, 8192, 8193, 16383, 1 << 16, MOST};

    private static int wrong = 0;

    /** A call with the answer that is due. */
    private static final class Row {
        final String call;
        final ToIntFunction<IntervalDesk> ask;
        final int want;

        Row(String call, ToIntFunction<IntervalDesk> ask, int want) {
            this.call = call;
            this.ask = ask;
            this.want = want;
        }
    }

    private interface CallOfTwo {
        int ask(IntervalDesk desk, int i, int j);
    }

    private interface CallOfOne {
        int ask(IntervalDesk desk, int number);
    }

    public static void main(String[] args) {
        eachCallCanBeThe512th();
        theHeaviestCallCanBeMade512Times();
        refusedCallsUpToThe512th();
        theOtherWayIsTheSetOfTwelveLess();
        theOtherWayAfterEachChange();
        atFirstAllAreStated();
        theFirstScenarioAndTheLast();
        scenariosOfThreeAscend();
        anEarlierPairDecidesBeforeALaterOne();
        numbersCountFittingScenariosAlone();
        twoThatAreNotIntervals();
        numbersThatAreNoSet();
        intervalsAreTestedBeforeTheSet();
        intervalsAreTestedBeforeTheScenario();
        aRefusedPushChangesNothing();
        aRefusedPopChangesNothing();
        refusedQuestionsOfScenariosChangeNothing();
        questionsChangeNothing();
        System.out.println(wrong == 0 ? "all answers are as due" : wrong + " answers are not as due");
        if (wrong != 0) {
            System.exit(1);
        }
    }

    private static void due(String where, String call, int got, int want) {
        if (got != want) {
            wrong++;
            System.out.println(where + ": " + call + " answered " + got + ", due is " + want);
        }
    }

    private static void due(String where, IntervalDesk desk, Row row) {
        due(where, row.call, row.ask.applyAsInt(desk), row.want);
    }

    private static int setOf(int... relations) {
        int set = 0;
        for (int r : relations) {
            set |= 1 << r;
        }
        return set;
    }

    private static int turned(int set) {
        int result = 0;
        for (int r = 0; r < 13; r++) {
            if ((set & 1 << r) != 0) {
                result |= 1 << 12 - r;
            }
        }
        return result;
    }

    // "An object is used for at most 512 calls after it has been made"

    /** Seventeen calls, of every kind, that leave what is stated and the pile as they were. */
    private static List<Row> roundOfFour() {
        List<Row> rows = new ArrayList<>();
        rows.add(new Row("push()", d -> d.push(), 1));
        rows.add(new Row("limit(0, 1, {0})", d -> d.limit(0, 1, 1), 1));
        rows.add(new Row("limit(1, 2, {0})", d -> d.limit(1, 2, 1), 1));
        rows.add(new Row("limit(3, 2, {12})", d -> d.limit(3, 2, 4096), 1));
        rows.add(new Row("scenarios()", d -> d.scenarios(), 1));
        rows.add(new Row("possible(0, 3)", d -> d.possible(0, 3), 1));
        rows.add(new Row("follows(3, 0, {12})", d -> d.follows(3, 0, 4096), 1));
        rows.add(new Row("relation(0, 3, 1)", d -> d.relation(0, 3, 1), 12));
        rows.add(new Row("points(0)", d -> d.points(0), 8));
        rows.add(new Row("place(0, 3)", d -> d.place(0, 3), 16 * 6 + 7));
        rows.add(new Row("crowd(0)", d -> d.crowd(0), 1));
        rows.add(new Row("fewest()", d -> d.fewest(), 8));
        rows.add(new Row("compose({0}, {0})", d -> d.compose(1, 1), 1));
        rows.add(new Row("closed(3, 0)", d -> d.closed(3, 0), 4096));
        rows.add(new Row("stated(2, 0)", d -> d.stated(2, 0), ALL));
        rows.add(new Row("free(2, 1)", d -> d.free(2, 1), 1));
        rows.add(new Row("pop()", d -> d.pop(), 0));
        return rows;
    }

    /** Each kind of call, where all is stated and the pile has one. */
    private static List<Row> callsOfFour() {
        List<Row> rows = new ArrayList<>();
        rows.add(new Row("limit(0, 1, {0, 1})", d -> d.limit(0, 1, 3), 2));
        rows.add(new Row("free(3, 2)", d -> d.free(3, 2), 13));
        rows.add(new Row("push()", d -> d.push(), 2));
        rows.add(new Row("pop()", d -> d.pop(), 0));
        rows.add(new Row("stated(0, 1)", d -> d.stated(0, 1), ALL));
        rows.add(new Row("scenarios()", d -> d.scenarios(), 23917));
        rows.add(new Row("possible(3, 1)", d -> d.possible(3, 1), ALL));
        rows.add(new Row("follows(1, 3, all)", d -> d.follows(1, 3, ALL), 1));
        rows.add(new Row("relation(23916, 0, 1)", d -> d.relation(23916, 0, 1), 12));
        rows.add(new Row("points(23916)", d -> d.points(23916), 8));
        rows.add(new Row("place(23916, 0)", d -> d.place(23916, 0), 16 * 6 + 7));
        rows.add(new Row("crowd(23916)", d -> d.crowd(23916), 1));
        rows.add(new Row("fewest()", d -> d.fewest(), 2));
        rows.add(new Row("compose({0}, {12})", d -> d.compose(1, 4096), ALL));
        rows.add(new Row("closed(0, 3)", d -> d.closed(0, 3), ALL));
        return rows;
    }

    private static void eachCallCanBeThe512th() {
        for (Row last : callsOfFour()) {
            IntervalDesk desk = new IntervalDesk(4);
            int calls = 0;
            while (calls + roundOfFour().size() + 2 <= CALLS) {
                for (Row row : roundOfFour()) {
                    calls++;
                    due("call " + calls, desk, row);
                }
            }
            while (calls + 2 < CALLS) {
                calls++;
                due("call " + calls, "stated(0, 1)", desk.stated(0, 1), ALL);
            }
            due("call 511", "push()", desk.push(), 1);
            due("call 512", desk, last);
        }
    }

    private static void theHeaviestCallCanBeMade512Times() {
        IntervalDesk desk = new IntervalDesk(4);
        for (int call = 1; call <= CALLS; call++) {
            due("call " + call, "fewest()", desk.fewest(), 2);
        }
    }

    private static void refusedCallsUpToThe512th() {
        IntervalDesk desk = new IntervalDesk(3);
        desk.limit(1, 2, setOf(4));
        for (int call = 2; call < CALLS; call++) {
            due("call " + call, "pop()", desk.pop(), -1);
        }
        due("call 512", "stated(2, 1)", desk.stated(2, 1), setOf(8));
    }

    // "What is stated of j to i is always the set of the 12 - r."

    private static void theOtherWayIsTheSetOfTwelveLess() {
        for (int set = 0; set <= ALL; set++) {
            IntervalDesk desk = new IntervalDesk(2);
            due("the other way", "limit(0, 1, " + set + ")", desk.limit(0, 1, set), Integer.bitCount(set));
            due("the other way of " + set, "stated(0, 1)", desk.stated(0, 1), set);
            due("the other way of " + set, "stated(1, 0)", desk.stated(1, 0), turned(set));
        }
    }

    private static void theOtherWayAfterEachChange() {
        for (int n = 2; n <= 4; n++) {
            for (int i = 0; i < n; i++) {
                for (int j = 0; j < n; j++) {
                    if (i != j) {
                        changeOnePair(n, i, j);
                    }
                }
            }
        }
    }

    private static void changeOnePair(int n, int i, int j) {
        IntervalDesk desk = new IntervalDesk(n);
        String where = "the pair " + i + ", " + j + " of " + n;
        int first = setOf(0, 3, 4, 11);
        due(where, "limit", desk.limit(i, j, first), 4);
        pairDue(where + " after limit", desk, n, i, j, first);
        due(where, "limit the other way", desk.limit(j, i, setOf(12, 9, 2)), 2);
        pairDue(where + " after limit the other way", desk, n, i, j, setOf(0, 3));
        desk.push();
        due(where, "free the other way", desk.free(j, i), 2);
        pairDue(where + " after free", desk, n, i, j, ALL);
        desk.pop();
        pairDue(where + " after pop", desk, n, i, j, setOf(0, 3));
        desk.limit(i, j, setOf(12));
        pairDue(where + " with none left", desk, n, i, j, 0);
    }

    /** The one pair has the set, and all the others have all relations. */
    private static void pairDue(String where, IntervalDesk desk, int n, int i, int j, int set) {
        for (int x = 0; x < n; x++) {
            for (int y = 0; y < n; y++) {
                int want = x == y ? -1 : x == i && y == j ? set : x == j && y == i ? turned(set) : ALL;
                due(where, "stated(" + x + ", " + y + ")", desk.stated(x, y), want);
            }
        }
    }

    // "At first all 13 relations are stated for all pairs."

    private static void atFirstAllAreStated() {
        for (int n = 2; n <= 4; n++) {
            for (int i = 0; i < n; i++) {
                for (int j = 0; j < n; j++) {
                    due("at first, of " + n, "stated(" + i + ", " + j + ")",
                        new IntervalDesk(n).stated(i, j), i == j ? -1 : ALL);
                    due("at first, of " + n, "free(" + i + ", " + j + ")",
                        new IntervalDesk(n).free(i, j), i == j ? -1 : 13);
                }
            }
        }
    }

    // "Scenarios are ordered by the relations of 0 to 1, 0 to 2, 0 to 3, 1 to 2, 1 to 3, 2 to 3 .."

    private static void theFirstScenarioAndTheLast() {
        for (int n = 2; n <= 4; n++) {
            int last = SCENARIOS[n] - 1;
            IntervalDesk desk = new IntervalDesk(n);
            for (int i = 0; i < n; i++) {
                for (int j = 0; j < n; j++) {
                    String pair = i + ", " + j + ") of " + n;
                    int least = i == j ? -1 : i < j ? 0 : 12;
                    int most = i == j ? -1 : i < j ? 12 : 0;
                    due("the first", "relation(0, " + pair, desk.relation(0, i, j), least);
                    due("the last", "relation(" + last + ", " + pair, desk.relation(last, i, j), most);
                    due("past the last", "relation(" + (last + 1) + ", " + pair,
                        desk.relation(last + 1, i, j), i == j ? -1 : -2);
                }
            }
        }
    }

    private static void scenariosOfThreeAscend() {
        int before = -1;
        for (int k = 0; k < 409; k++) {
            IntervalDesk desk = new IntervalDesk(3);
            int here = desk.relation(k, 0, 1) * 169 + desk.relation(k, 0, 2) * 13 + desk.relation(k, 1, 2);
            due("the order", "scenario " + k + " of three is past the one before", here > before ? 1 : 0, 1);
            before = here;
        }
    }

    /**
     * Two scenarios of four, A and B, that alone fit if each pair is held to what it has in the two. For each pair
     * of the order and each later one there is a row in which the earlier has less in A, the later more, and none
     * of the others less.
     */
    private static final int[][][] TWO_OF_FOUR = {
        {{2, 7, 0, 9, 0, 0}, {3, 3, 0, 9, 0, 0}},
        {{2, 0, 7, 0, 9, 12}, {3, 0, 3, 0, 9, 12}},
        {{0, 1, 0, 4, 0, 0}, {1, 1, 0, 3, 0, 0}},
        {{0, 0, 1, 0, 4, 4}, {1, 0, 1, 0, 3, 4}},
        {{0, 0, 1, 1, 5, 11}, {1, 0, 1, 1, 3, 4}},
        {{0, 2, 7, 4, 12, 9}, {0, 3, 3, 4, 12, 9}},
        {{1, 0, 0, 7, 0, 0}, {1, 1, 0, 3, 0, 0}},
        {{0, 0, 1, 4, 12, 11}, {0, 1, 1, 4, 4, 3}},
        {{0, 0, 1, 4, 4, 4}, {0, 1, 1, 4, 4, 3}},
        {{1, 0, 0, 1, 7, 11}, {1, 0, 1, 0, 3, 11}},
        {{1, 0, 0, 0, 7, 12}, {1, 0, 1, 0, 3, 12}},
        {{0, 1, 0, 4, 4, 7}, {0, 1, 1, 4, 4, 3}},
        {{0, 0, 0, 2, 7, 9}, {0, 0, 0, 3, 3, 9}},
        {{0, 0, 0, 0, 1, 4}, {0, 0, 0, 1, 1, 3}},
        {{0, 0, 0, 1, 0, 7}, {0, 0, 0, 1, 1, 3}}};

    private static void anEarlierPairDecidesBeforeALaterOne() {
        int[] first = {0, 0, 0, 1, 1, 2};
        int[] second = {1, 2, 3, 2, 3, 3};
        for (int row = 0; row < TWO_OF_FOUR.length; row++) {
            IntervalDesk desk = new IntervalDesk(4);
            String where = "the order, row " + row;
            for (int p = 0; p < 6; p++) {
                desk.limit(first[p], second[p], setOf(TWO_OF_FOUR[row][0][p], TWO_OF_FOUR[row][1][p]));
            }
            due(where, "scenarios()", desk.scenarios(), 2);
            for (int k = 0; k < 2; k++) {
                for (int p = 0; p < 6; p++) {
                    String call = "relation(" + k + ", " + first[p] + ", " + second[p] + ")";
                    due(where, call, desk.relation(k, first[p], second[p]), TWO_OF_FOUR[row][k][p]);
                }
            }
            due(where, "relation(2, 0, 1)", desk.relation(2, 0, 1), -2);
        }
    }

    // "Scenario number k is that with k fitting ones before it, among those that fit."

    private static void numbersCountFittingScenariosAlone() {
        IntervalDesk desk = new IntervalDesk(2);
        desk.limit(0, 1, setOf(2, 6, 12));
        int[] relations = {2, 6, 12};
        for (int k = 0; k < 3; k++) {
            due("numbers", "relation(" + k + ", 0, 1)", desk.relation(k, 0, 1), relations[k]);
        }
        due("numbers", "relation(3, 0, 1)", desk.relation(3, 0, 1), -2);
        // What is stated of 1 to 0 turns the order of its relations round.
        due("numbers", "relation(0, 1, 0)", desk.relation(0, 1, 0), 10);
        due("numbers", "relation(2, 1, 0)", desk.relation(2, 1, 0), 0);
        desk.free(1, 0);
        due("numbers", "relation(6, 0, 1) of all", desk.relation(6, 0, 1), 6);
    }

    // "A refused call changes nothing."; for the refusals of limit and free see what is held after each.

    /** Something stated, something else kept: n is 2, 3 or 4. Takes five calls. */
    private static IntervalDesk filled(int n) {
        IntervalDesk desk = new IntervalDesk(n);
        desk.limit(0, 1, setOf(2, 3, 9));
        desk.push();
        desk.limit(1, 0, setOf(3, 10));
        desk.limit(n - 1, n - 2, setOf(3, 4, 10));
        desk.push();
        return desk;
    }

    /** Looks through all that is stated and, taking it off, through the pile. */
    private static void filledDue(String where, IntervalDesk desk, int n) {
        int firstPair = n == 2 ? setOf(2, 9) & setOf(9, 8, 2) : setOf(2, 9);
        int lastPair = n == 2 ? firstPair : setOf(9, 8, 2);
        statedDue(where, desk, n, firstPair, lastPair);
        due(where, "pop()", desk.pop(), 1);
        statedDue(where + ", off the pile", desk, n, firstPair, lastPair);
        due(where, "pop()", desk.pop(), 0);
        statedDue(where + ", at the pile's end", desk, n, setOf(2, 3, 9), n == 2 ? setOf(2, 3, 9) : ALL);
        due(where, "pop()", desk.pop(), -1);
    }

    private static void statedDue(String where, IntervalDesk desk, int n, int firstPair, int lastPair) {
        for (int i = 0; i < n; i++) {
            for (int j = i + 1; j < n; j++) {
                int want = i == 0 && j == 1 ? firstPair : i == n - 2 && j == n - 1 ? lastPair : ALL;
                due(where, "stated(" + i + ", " + j + ")", desk.stated(i, j), want);
                due(where, "stated(" + j + ", " + i + ")", desk.stated(j, i), turned(want));
            }
        }
    }

    // "Two intervals that are not both 0 to n - 1, or are the same: -1"

    private static void twoThatAreNotIntervals() {
        refusedForIntervals("limit", (d, i, j) -> d.limit(i, j, 0));
        refusedForIntervals("free", (d, i, j) -> d.free(i, j));
        refusedForIntervals("stated", (d, i, j) -> d.stated(i, j));
        refusedForIntervals("possible", (d, i, j) -> d.possible(i, j));
        refusedForIntervals("follows", (d, i, j) -> d.follows(i, j, ALL));
        refusedForIntervals("relation", (d, i, j) -> d.relation(0, i, j));
        refusedForIntervals("closed", (d, i, j) -> d.closed(i, j));
    }

    private static void refusedForIntervals(String name, CallOfTwo call) {
        for (int n = 2; n <= 4; n++) {
            IntervalDesk desk = filled(n);
            for (int i : NUMBERS) {
                for (int j : NUMBERS) {
                    if (!areIntervals(n, i, j)) {
                        due("no intervals of " + n, name + "(.. " + i + ", " + j + " ..)", call.ask(desk, i, j), -1);
                    }
                }
            }
            filledDue("after a refused " + name, desk, n);
            theGoodOnesAreTaken(name, call, n);
        }
    }

    /** So that a class that refuses too much doesn't pass for one that refuses rightly. */
    private static void theGoodOnesAreTaken(String name, CallOfTwo call, int n) {
        for (int i = 0; i < n; i++) {
            for (int j = 0; j < n; j++) {
                if (i != j) {
                    int got = call.ask(new IntervalDesk(n), i, j);
                    due("intervals of " + n, name + "(.. " + i + ", " + j + " ..) is taken", got >= 0 ? 1 : got, 1);
                }
            }
        }
    }

    private static boolean areIntervals(int n, int i, int j) {
        return i >= 0 && i < n && j >= 0 && j < n && i != j;
    }

    // "a number that is no set: -2"

    private static void numbersThatAreNoSet() {
        refusedForSet("limit(0, 1, ..)", (d, set) -> d.limit(0, 1, set));
        refusedForSet("limit(1, 0, ..)", (d, set) -> d.limit(1, 0, set));
        refusedForSet("follows(0, 1, ..)", (d, set) -> d.follows(0, 1, set));
        refusedForSet("compose(.., 8191)", (d, set) -> d.compose(set, ALL));
        refusedForSet("compose(8191, ..)", (d, set) -> d.compose(ALL, set));
    }

    private static void refusedForSet(String name, CallOfOne call) {
        for (int n = 2; n <= 4; n++) {
            IntervalDesk desk = filled(n);
            for (int set : NO_SETS) {
                due("no set, of " + n, name + " with " + set, call.ask(desk, set), -2);
            }
            filledDue("after a refused " + name, desk, n);
        }
        for (int set : new int[] {0, 1, 4096, ALL - 1, ALL}) {
            int got = call.ask(new IntervalDesk(2), set);
            due("a set", name + " with " + set + " is taken", got >= 0 ? 1 : got, 1);
        }
    }

    // "The tests of a call are made in the order in which they are named."

    private static void intervalsAreTestedBeforeTheSet() {
        for (int n = 2; n <= 4; n++) {
            for (int set : NO_SETS) {
                IntervalDesk desk = filled(n);
                int[][] pairs = {{0, 0}, {0, n}, {n, 0}, {-1, 1}, {1, -1}, {MOST, MOST}, {LEAST, 0}};
                for (int[] pair : pairs) {
                    String with = "(" + pair[0] + ", " + pair[1] + ", " + set + ") of " + n;
                    due("intervals first", "limit" + with, desk.limit(pair[0], pair[1], set), -1);
                    due("intervals first", "follows" + with, desk.follows(pair[0], pair[1], set), -1);
                }
                filledDue("after refused calls", desk, n);
            }
        }
    }

    private static void intervalsAreTestedBeforeTheScenario() {
        for (int n = 2; n <= 4; n++) {
            for (int k : new int[] {LEAST, -1, SCENARIOS[n], MOST}) {
                IntervalDesk desk = new IntervalDesk(n);
                int[][] pairs = {{0, 0}, {0, n}, {n, 0}, {-1, 1}, {1, -1}, {MOST, MOST}, {LEAST, 0}};
                for (int[] pair : pairs) {
                    String with = "(" + k + ", " + pair[0] + ", " + pair[1] + ") of " + n;
                    due("intervals first", "relation" + with, desk.relation(k, pair[0], pair[1]), -1);
                }
                for (int i : new int[] {LEAST, -1, n, MOST}) {
                    due("intervals first", "place(" + k + ", " + i + ") of " + n, desk.place(k, i), -1);
                }
                due("then the scenario", "relation(" + k + ", 0, 1) of " + n, desk.relation(k, 0, 1), -2);
                due("then the scenario", "place(" + k + ", 0) of " + n, desk.place(k, 0), -2);
            }
        }
    }

    private static void aRefusedPushChangesNothing() {
        for (int n = 2; n <= 4; n++) {
            IntervalDesk desk = new IntervalDesk(n);
            for (int kept = 1; kept <= 6; kept++) {
                due("push of " + n, "push()", desk.push(), kept);
                desk.limit(n - 1, 0, ALL & ~(1 << kept));
            }
            int held = desk.stated(n - 1, 0);
            for (int again = 0; again < 3; again++) {
                due("a full pile of " + n, "push()", desk.push(), -1);
                due("a full pile of " + n, "stated(n - 1, 0)", desk.stated(n - 1, 0), held);
            }
            for (int kept = 5; kept >= 0; kept--) {
                held |= 2 << kept;
                due("after refused pushes of " + n, "pop()", desk.pop(), kept);
                due("after refused pushes of " + n, "stated(n - 1, 0)", desk.stated(n - 1, 0), held);
            }
        }
    }

    private static void aRefusedPopChangesNothing() {
        for (int n = 2; n <= 4; n++) {
            IntervalDesk desk = new IntervalDesk(n);
            desk.limit(0, n - 1, setOf(1, 5));
            for (int again = 0; again < 3; again++) {
                due("an empty pile of " + n, "pop()", desk.pop(), -1);
                due("an empty pile of " + n, "stated(0, n - 1)", desk.stated(0, n - 1), setOf(1, 5));
            }
            due("after refused pops of " + n, "push()", desk.push(), 1);
            desk.limit(0, n - 1, 0);
            due("after refused pops of " + n, "pop()", desk.pop(), 0);
            due("after refused pops of " + n, "stated(n - 1, 0)", desk.stated(n - 1, 0), setOf(11, 7));
            due("after refused pops of " + n, "pop()", desk.pop(), -1);
            due("after refused pops of " + n, "stated(n - 1, 0)", desk.stated(n - 1, 0), setOf(11, 7));
        }
    }

    private static void refusedQuestionsOfScenariosChangeNothing() {
        for (int n = 2; n <= 4; n++) {
            IntervalDesk desk = filled(n);
            for (int k : new int[] {LEAST, -1, SCENARIOS[n], 999999, 1000000, MOST}) {
                due("no scenario of " + n, "relation(" + k + ", 0, 1)", desk.relation(k, 0, 1), -2);
                due("no scenario of " + n, "points(" + k + ")", desk.points(k), -2);
                due("no scenario of " + n, "place(" + k + ", 0)", desk.place(k, 0), -2);
                due("no scenario of " + n, "crowd(" + k + ")", desk.crowd(k), -2);
            }
            filledDue("after questions of no scenario", desk, n);
        }
    }

    // "questions; they change nothing"

    /** The two scenarios: 0 before 1, and 2 after 1 or from its end on. */
    private static IntervalDesk asked() {
        IntervalDesk desk = new IntervalDesk(3);
        desk.limit(0, 1, setOf(0));
        desk.push();
        desk.limit(1, 2, setOf(0, 1));
        return desk;
    }

    private static List<Row> questions() {
        List<Row> rows = new ArrayList<>();
        rows.add(new Row("stated(2, 1)", d -> d.stated(2, 1), setOf(12, 11)));
        rows.add(new Row("stated(0, 2)", d -> d.stated(0, 2), ALL));
        rows.add(new Row("stated(0, 3)", d -> d.stated(0, 3), -1));
        rows.add(new Row("scenarios()", d -> d.scenarios(), 2));
        rows.add(new Row("possible(0, 2)", d -> d.possible(0, 2), setOf(0)));
        rows.add(new Row("possible(2, 2)", d -> d.possible(2, 2), -1));
        rows.add(new Row("follows(0, 2, {0})", d -> d.follows(0, 2, 1), 1));
        rows.add(new Row("follows(2, 1, {12})", d -> d.follows(2, 1, 4096), 0));
        rows.add(new Row("follows(2, 1, 8192)", d -> d.follows(2, 1, 8192), -2));
        rows.add(new Row("relation(0, 1, 2)", d -> d.relation(0, 1, 2), 0));
        rows.add(new Row("relation(1, 1, 2)", d -> d.relation(1, 1, 2), 1));
        rows.add(new Row("relation(2, 1, 2)", d -> d.relation(2, 1, 2), -2));
        rows.add(new Row("points(0)", d -> d.points(0), 6));
        rows.add(new Row("points(1)", d -> d.points(1), 5));
        rows.add(new Row("points(-1)", d -> d.points(-1), -2));
        rows.add(new Row("place(0, 2)", d -> d.place(0, 2), 16 * 4 + 5));
        rows.add(new Row("place(1, 2)", d -> d.place(1, 2), 16 * 3 + 4));
        rows.add(new Row("place(1, 3)", d -> d.place(1, 3), -1));
        rows.add(new Row("crowd(0)", d -> d.crowd(0), 1));
        rows.add(new Row("crowd(2)", d -> d.crowd(2), -2));
        rows.add(new Row("fewest()", d -> d.fewest(), 5));
        rows.add(new Row("compose({1}, {11})", d -> d.compose(2, 2048), setOf(5, 6, 7)));
        rows.add(new Row("compose(-1, 0)", d -> d.compose(-1, 0), -2));
        rows.add(new Row("closed(0, 2)", d -> d.closed(0, 2), setOf(0)));
        rows.add(new Row("closed(2, 0)", d -> d.closed(2, 0), setOf(12)));
        rows.add(new Row("closed(-1, 0)", d -> d.closed(-1, 0), -1));
        return rows;
    }

    /** After each question all the others, and what is stated and kept, are as they were. */
    private static void questionsChangeNothing() {
        for (Row first : questions()) {
            IntervalDesk desk = asked();
            due("asked first", desk, first);
            String where = "after " + first.call;
            for (Row row : questions()) {
                due(where, desk, row);
            }
            statedDue(where, desk, 3, setOf(0), setOf(0, 1));
            due(where, "push()", desk.push(), 2);
            due(where, "pop()", desk.pop(), 1);
            statedDue(where + ", off the pile", desk, 3, setOf(0), setOf(0, 1));
            due(where, "pop()", desk.pop(), 0);
            statedDue(where + ", at the pile's end", desk, 3, setOf(0), ALL);
            due(where, "pop()", desk.pop(), -1);
        }
    }
}
