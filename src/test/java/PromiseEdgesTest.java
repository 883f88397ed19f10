/** The boundary cases that the document names in promises 1 to 16, a method for each; the answers are made by hand. */
public final class PromiseEdgesTest {
    private static final int ALL = 8191;
    private static final int LEAST = Integer.MIN_VALUE;
    private static final int MOST = Integer.MAX_VALUE;
    private static final int[] SCENARIOS = {0, 0, 13, 409, 23917};
    private static int wrong = 0;

    public static void main(String[] args) {
        newObjectBelowTwo();
        newObjectFromTwoToFour();
        newObjectAboveFour();
        limitToNone();
        limitThatTakesNothing();
        limitRefused();
        freeWhereNothingOrAllHadBeenStated();
        freeRefused();
        pushOnAPileOfSix();
        popOfAnEmptyPile();
        popStatesWhatWasKeptLast();
        statedOfNoneAndOfAll();
        statedRefused();
        scenariosWhereNoneFits();
        scenariosWhereOneFits();
        scenariosWhereAllFit();
        possibleWhereNoneFits();
        possibleWhereOneOrAllFit();
        possibleRefused();
        followsWhereNoneFits();
        followsOfTheEmptySetAndOfAll();
        followsAtTheEdgeOfWhatIsPossible();
        followsRefused();
        scenarioNumbersOfAll();
        scenarioNumbersWhereOneFits();
        scenarioNumbersWhereNoneFits();
        relationRefused();
        placeRefused();
        pointsLeastAndGreatest();
        placeLeastAndGreatest();
        crowdLeastAndGreatest();
        crowdOfAMeeting();
        fewestWhereNoneFits();
        fewestLeastAndGreatest();
        fewestIsOverAllThatFit();
        composeWithTheEmptySet();
        composeOfLeastAndGreatestSets();
        composeOfNoSet();
        composeTakesAnyIntervals();
        closedOfTwo();
        closedWhereEverythingIsDropped();
        closedWhereNothingIsDropped();
        closedWithAnEmptySetElsewhere();
        closedGoesOnUntilNothingIsDropped();
        closedRefused();
        closedLeavesWhatIsStated();
        System.out.println(wrong == 0 ? "all answers are as due" : wrong + " answers are not as due");
        if (wrong != 0) {
            System.exit(1);
        }
    }

    private static void due(int promise, String call, int got, int want) {
        if (got != want) {
            wrong++;
            System.out.println("promise " + promise + ": " + call + " answered " + got + ", due is " + want);
        }
    }

    private static int setOf(int... relations) {
        int set = 0;
        for (int r : relations) {
            set |= 1 << r;
        }
        return set;
    }

    /** A desk of n on which each interval has just this relation to the next. */
    private static IntervalDesk chain(int n, int relation) {
        IntervalDesk desk = new IntervalDesk(n);
        for (int i = 0; i + 1 < n; i++) {
            desk.limit(i, i + 1, 1 << relation);
        }
        return desk;
    }

    // Promise 1

    private static void sizeDue(int asked, int n) {
        String what = ") of " + asked;
        due(1, "scenarios(" + what, new IntervalDesk(asked).scenarios(), SCENARIOS[n]);
        for (int i = 0; i <= 5; i++) {
            IntervalDesk desk = new IntervalDesk(asked);
            due(1, "place(0, " + i + what, desk.place(0, i), i < n ? 16 * 2 * i + 2 * i + 1 : -1);
            for (int j = 0; j <= 5; j++) {
                int want = i < n && j < n && i != j ? ALL : -1;
                due(1, "stated(" + i + ", " + j + what, desk.stated(i, j), want);
            }
        }
    }

    private static void newObjectBelowTwo() {
        for (int asked : new int[] {1, 0, -1, -2, -3, -4, LEAST + 1, LEAST, 1 << 31 | 3}) {
            sizeDue(asked, 2);
        }
    }

    private static void newObjectFromTwoToFour() {
        for (int n = 2; n <= 4; n++) {
            sizeDue(n, n);
        }
    }

    private static void newObjectAboveFour() {
        for (int asked : new int[] {5, 6, 7, 8, 16, 256 + 2, 65536 + 3, MOST - 1, MOST}) {
            sizeDue(asked, 4);
        }
    }

    // Promise 2

    private static void limitToNone() {
        IntervalDesk empty = new IntervalDesk(3);
        due(2, "limit(0, 1, {})", empty.limit(0, 1, 0), 0);
        due(2, "limit(0, 1, all) of none", empty.limit(0, 1, ALL), 0);
        due(2, "limit(1, 0, all) of none", empty.limit(1, 0, ALL), 0);
        due(2, "stated(0, 1)", empty.stated(0, 1), 0);
        due(2, "stated(0, 2)", empty.stated(0, 2), ALL);
        IntervalDesk apart = new IntervalDesk(3);
        due(2, "limit(2, 1, {0})", apart.limit(2, 1, setOf(0)), 1);
        due(2, "limit(2, 1, {12})", apart.limit(2, 1, setOf(12)), 0);
        due(2, "stated(1, 2)", apart.stated(1, 2), 0);
        // Relation 0 of 1 to 2 is relation 12 of 2 to 1.
        IntervalDesk turned = new IntervalDesk(3);
        due(2, "limit(2, 1, {0})", turned.limit(2, 1, setOf(0)), 1);
        due(2, "limit(1, 2, {0})", turned.limit(1, 2, setOf(0)), 0);
    }

    private static void limitThatTakesNothing() {
        IntervalDesk desk = new IntervalDesk(4);
        due(2, "limit(3, 0, all)", desk.limit(3, 0, ALL), 13);
        due(2, "limit(3, 0, {0, 12})", desk.limit(3, 0, setOf(0, 12)), 2);
        due(2, "limit(3, 0, {0, 12}) again", desk.limit(3, 0, setOf(0, 12)), 2);
        due(2, "limit(0, 3, all)", desk.limit(0, 3, ALL), 2);
        due(2, "stated(3, 0)", desk.stated(3, 0), setOf(0, 12));
        // It doesn't look at what can be: 0 to 2 stays as stated, though no scenario has it.
        due(2, "limit(0, 1, {0})", desk.limit(0, 1, setOf(0)), 1);
        due(2, "limit(1, 2, {0})", desk.limit(1, 2, setOf(0)), 1);
        due(2, "limit(0, 2, {12})", desk.limit(0, 2, setOf(12)), 1);
    }

    private static void limitRefused() {
        IntervalDesk desk = new IntervalDesk(3);
        desk.limit(0, 1, setOf(2, 5));
        due(2, "limit(0, 1, 8192)", desk.limit(0, 1, 8192), -2);
        due(2, "limit(0, 1, -1)", desk.limit(0, 1, -1), -2);
        due(2, "limit(0, 0, 0)", desk.limit(0, 0, 0), -1);
        due(2, "limit(0, 3, 0)", desk.limit(0, 3, 0), -1);
        due(2, "limit(-1, 1, 0)", desk.limit(-1, 1, 0), -1);
        due(2, "limit(1, 1, 8192): -1 before -2", desk.limit(1, 1, 8192), -1);
        due(2, "limit(3, 1, -1): -1 before -2", desk.limit(3, 1, -1), -1);
        due(2, "limit(least, most, least): -1 before -2", desk.limit(LEAST, MOST, LEAST), -1);
        due(2, "stated(0, 1)", desk.stated(0, 1), setOf(2, 5));
        due(2, "stated(0, 2)", desk.stated(0, 2), ALL);
        due(2, "stated(1, 2)", desk.stated(1, 2), ALL);
    }

    // Promise 3

    private static void freeWhereNothingOrAllHadBeenStated() {
        IntervalDesk desk = new IntervalDesk(3);
        due(3, "free(0, 1) of all", desk.free(0, 1), 13);
        due(3, "stated(0, 1)", desk.stated(0, 1), ALL);
        desk.limit(0, 1, 0);
        due(3, "free(0, 1) of none", desk.free(0, 1), 0);
        due(3, "stated(0, 1)", desk.stated(0, 1), ALL);
        due(3, "stated(1, 0)", desk.stated(1, 0), ALL);
        due(3, "free(0, 1) again", desk.free(0, 1), 13);
        desk.limit(2, 1, 0);
        due(3, "free(1, 2), the other way", desk.free(1, 2), 0);
        due(3, "stated(2, 1)", desk.stated(2, 1), ALL);
        desk.limit(2, 0, setOf(12));
        due(3, "free(0, 2) of one", desk.free(0, 2), 1);
        due(3, "scenarios()", desk.scenarios(), 409);
    }

    private static void freeRefused() {
        IntervalDesk desk = new IntervalDesk(2);
        desk.limit(0, 1, setOf(7));
        int[][] pairs = {{0, 0}, {1, 1}, {0, 2}, {2, 0}, {-1, 0}, {0, -1}, {2, 3}, {LEAST, 1}, {1, MOST}};
        for (int[] pair : pairs) {
            due(3, "free(" + pair[0] + ", " + pair[1] + ")", desk.free(pair[0], pair[1]), -1);
            due(3, "stated(0, 1)", desk.stated(0, 1), setOf(7));
            due(3, "stated(1, 0)", desk.stated(1, 0), setOf(5));
        }
    }

    // Promises 4 and 5

    private static void pushOnAPileOfSix() {
        IntervalDesk desk = new IntervalDesk(3);
        for (int kept = 1; kept <= 6; kept++) {
            due(4, "push()", desk.push(), kept);
        }
        desk.limit(0, 2, setOf(4));
        due(4, "push() on 6", desk.push(), -1);
        due(4, "stated(0, 2)", desk.stated(0, 2), setOf(4));
        // Had the refused push kept it on top, 0 to 2 would have {4} after this.
        due(5, "pop() of 6", desk.pop(), 5);
        due(5, "stated(0, 2)", desk.stated(0, 2), ALL);
        desk.limit(0, 2, setOf(5));
        due(4, "push() on 5", desk.push(), 6);
        due(4, "push() on 6", desk.push(), -1);
        due(5, "pop() of 6", desk.pop(), 5);
        due(5, "stated(2, 0)", desk.stated(2, 0), setOf(7));
    }

    private static void popOfAnEmptyPile() {
        IntervalDesk desk = new IntervalDesk(3);
        due(5, "pop() at first", desk.pop(), -1);
        due(5, "stated(0, 1)", desk.stated(0, 1), ALL);
        desk.limit(0, 1, setOf(4));
        due(5, "pop()", desk.pop(), -1);
        due(5, "stated(0, 1)", desk.stated(0, 1), setOf(4));
        due(4, "push()", desk.push(), 1);
        desk.limit(0, 1, 0);
        due(5, "pop() of 1", desk.pop(), 0);
        due(5, "stated(0, 1)", desk.stated(0, 1), setOf(4));
        desk.limit(0, 1, 0);
        due(5, "pop() of 0", desk.pop(), -1);
        due(5, "stated(0, 1)", desk.stated(0, 1), 0);
    }

    private static void popStatesWhatWasKeptLast() {
        int[][] pairs = {{0, 1}, {0, 2}, {0, 3}, {1, 2}, {1, 3}, {2, 3}};
        IntervalDesk desk = new IntervalDesk(4);
        for (int p = 0; p < 6; p++) {
            desk.limit(pairs[p][0], pairs[p][1], 1 << p);
            due(4, "push()", desk.push(), p + 1);
        }
        for (int[] pair : pairs) {
            desk.free(pair[0], pair[1]);
        }
        for (int p = 5; p >= 0; p--) {
            due(5, "pop()", desk.pop(), p);
            for (int q = 0; q < 6; q++) {
                int want = q <= p ? 1 << q : ALL;
                due(5, "stated of pair " + q + " after pop to " + p, desk.stated(pairs[q][0], pairs[q][1]), want);
            }
        }
        // What is stated after push doesn't reach what is kept, nor what is stated after pop.
        due(4, "push()", desk.push(), 1);
        desk.limit(0, 1, 0);
        due(4, "push()", desk.push(), 2);
        due(5, "pop()", desk.pop(), 1);
        due(5, "stated(0, 1)", desk.stated(0, 1), 0);
        due(5, "pop()", desk.pop(), 0);
        due(5, "stated(0, 1)", desk.stated(0, 1), 1);
    }

    // Promise 6

    private static void statedOfNoneAndOfAll() {
        IntervalDesk desk = new IntervalDesk(4);
        due(6, "stated(1, 3) of all", desk.stated(1, 3), ALL);
        due(6, "stated(3, 1) of all", desk.stated(3, 1), ALL);
        desk.limit(1, 3, 0);
        due(6, "stated(1, 3) of none", desk.stated(1, 3), 0);
        due(6, "stated(3, 1) of none", desk.stated(3, 1), 0);
        desk.free(3, 1);
        due(6, "stated(1, 3) of all again", desk.stated(1, 3), ALL);
        due(6, "stated(3, 1) of all again", desk.stated(3, 1), ALL);
        for (int r = 0; r < 13; r++) {
            desk.limit(3, 1, 1 << r);
            due(6, "stated(3, 1) of {" + r + "}", desk.stated(3, 1), 1 << r);
            due(6, "stated(1, 3) of {" + r + "}", desk.stated(1, 3), 1 << 12 - r);
            desk.free(3, 1);
        }
    }

    private static void statedRefused() {
        for (int n = 2; n <= 4; n++) {
            IntervalDesk desk = new IntervalDesk(n);
            for (int i = 0; i < n; i++) {
                due(6, "stated(" + i + ", " + i + ") of " + n, desk.stated(i, i), -1);
                for (int no : new int[] {LEAST, -1, n, n + 1, MOST}) {
                    due(6, "stated(" + i + ", " + no + ") of " + n, desk.stated(i, no), -1);
                    due(6, "stated(" + no + ", " + i + ") of " + n, desk.stated(no, i), -1);
                }
            }
        }
    }

    // Promise 7

    private static void scenariosWhereNoneFits() {
        for (int n = 2; n <= 4; n++) {
            for (int i = 0; i < n; i++) {
                for (int j = 0; j < n; j++) {
                    if (i != j) {
                        IntervalDesk desk = new IntervalDesk(n);
                        desk.limit(i, j, 0);
                        due(7, "scenarios() of " + n + ", none left for " + i + ", " + j, desk.scenarios(), 0);
                    }
                }
            }
        }
        // No set is empty, but each is before the next and the last before the first.
        for (int n = 3; n <= 4; n++) {
            IntervalDesk ring = chain(n, 0);
            ring.limit(n - 1, 0, setOf(0));
            due(7, "scenarios() of a ring of " + n, ring.scenarios(), 0);
        }
    }

    private static void scenariosWhereOneFits() {
        for (int r = 0; r < 13; r++) {
            due(7, "scenarios() of two with {" + r + "}", chain(2, r).scenarios(), 1);
        }
        for (int n = 2; n <= 4; n++) {
            for (int r : new int[] {0, 1, 3, 4, 5, 6, 7, 8, 9, 11, 12}) {
                due(7, "scenarios() of a chain of " + n + " with {" + r + "}", chain(n, r).scenarios(), 1);
            }
        }
        // Each overlaps the next, and yet 0 may end before, with or after the beginning of 2.
        due(7, "scenarios() of three that overlap", chain(3, 2).scenarios(), 3);
        due(7, "scenarios() of three that overlap, turned", chain(3, 10).scenarios(), 3);
    }

    private static void scenariosWhereAllFit() {
        for (int n = 2; n <= 4; n++) {
            IntervalDesk desk = new IntervalDesk(n);
            due(7, "scenarios() of " + n, desk.scenarios(), SCENARIOS[n]);
            desk.limit(n - 1, 0, 0);
            due(7, "scenarios() of " + n + " with none", desk.scenarios(), 0);
            desk.free(0, n - 1);
            due(7, "scenarios() of " + n + " again", desk.scenarios(), SCENARIOS[n]);
        }
    }

    // Promise 8

    private static void possibleWhereNoneFits() {
        for (int n = 2; n <= 4; n++) {
            for (int i = 0; i < n; i++) {
                for (int j = 0; j < n; j++) {
                    IntervalDesk desk = new IntervalDesk(n);
                    desk.limit(n - 2, n - 1, 0);
                    due(8, "possible(" + i + ", " + j + ") with none of " + n, desk.possible(i, j), i == j ? -1 : 0);
                }
            }
        }
    }

    private static void possibleWhereOneOrAllFit() {
        for (int n = 2; n <= 4; n++) {
            IntervalDesk all = new IntervalDesk(n);
            IntervalDesk one = chain(n, 12);
            for (int i = 0; i < n; i++) {
                for (int j = 0; j < n; j++) {
                    if (i != j) {
                        String pair = "possible(" + i + ", " + j + ") of " + n;
                        due(8, pair, all.possible(i, j), ALL);
                        due(8, pair + " with one scenario", one.possible(i, j), i < j ? setOf(12) : setOf(0));
                    }
                }
            }
        }
    }

    private static void possibleRefused() {
        IntervalDesk desk = new IntervalDesk(2);
        desk.limit(0, 1, 0);
        due(8, "possible(0, 0) with none", desk.possible(0, 0), -1);
        due(8, "possible(0, 2) with none", desk.possible(0, 2), -1);
        due(8, "possible(2, 1) with none", desk.possible(2, 1), -1);
        due(8, "possible(-1, 1) with none", desk.possible(-1, 1), -1);
        due(8, "possible(most, least) with none", desk.possible(MOST, LEAST), -1);
    }

    // Promise 9

    private static void followsWhereNoneFits() {
        for (int n = 2; n <= 4; n++) {
            IntervalDesk desk = new IntervalDesk(n);
            desk.limit(0, n - 1, 0);
            for (int set : new int[] {0, 1, 64, 4096, ALL}) {
                due(9, "follows(0, 1, " + set + ") with none of " + n, desk.follows(0, 1, set), 1);
                due(9, "follows(1, 0, " + set + ") with none of " + n, desk.follows(1, 0, set), 1);
            }
        }
        IntervalDesk ring = chain(3, 0);
        ring.limit(2, 0, setOf(0));
        due(9, "follows(0, 1, {}) of a ring", ring.follows(0, 1, 0), 1);
        due(9, "follows(0, 1, {12}) of a ring", ring.follows(0, 1, setOf(12)), 1);
    }

    private static void followsOfTheEmptySetAndOfAll() {
        for (int n = 2; n <= 4; n++) {
            IntervalDesk desk = new IntervalDesk(n);
            due(9, "follows(0, 1, {}) of " + n, desk.follows(0, 1, 0), 0);
            due(9, "follows(0, 1, all) of " + n, desk.follows(0, 1, ALL), 1);
            IntervalDesk one = chain(n, 6);
            due(9, "follows(0, 1, {}) with one scenario of " + n, one.follows(0, 1, 0), 0);
            due(9, "follows(0, 1, all) with one scenario of " + n, one.follows(0, 1, ALL), 1);
        }
    }

    private static void followsAtTheEdgeOfWhatIsPossible() {
        // The one relation that is missing counts, were it in the first scenario, the last or one between.
        for (int r = 0; r < 13; r++) {
            IntervalDesk desk = new IntervalDesk(2);
            due(9, "follows(0, 1, all but " + r + ")", desk.follows(0, 1, ALL & ~(1 << r)), 0);
            due(9, "follows(1, 0, all but " + r + ")", desk.follows(1, 0, ALL & ~(1 << r)), 0);
        }
        // What is stated but in no scenario doesn't count.
        IntervalDesk desk = chain(3, 1);
        due(9, "follows(0, 2, {0})", desk.follows(0, 2, setOf(0)), 1);
        due(9, "follows(2, 0, {12})", desk.follows(2, 0, setOf(12)), 1);
        due(9, "follows(2, 0, {0})", desk.follows(2, 0, setOf(0)), 0);
    }

    private static void followsRefused() {
        IntervalDesk desk = new IntervalDesk(3);
        for (int round = 0; round < 2; round++) {
            due(9, "follows(0, 1, 8192)", desk.follows(0, 1, 8192), -2);
            due(9, "follows(0, 1, -1)", desk.follows(0, 1, -1), -2);
            due(9, "follows(0, 1, least)", desk.follows(0, 1, LEAST), -2);
            due(9, "follows(0, 1, most)", desk.follows(0, 1, MOST), -2);
            due(9, "follows(0, 0, all)", desk.follows(0, 0, ALL), -1);
            due(9, "follows(0, 3, all)", desk.follows(0, 3, ALL), -1);
            due(9, "follows(-1, 0, all)", desk.follows(-1, 0, ALL), -1);
            due(9, "follows(2, 2, 8192): -1 before -2", desk.follows(2, 2, 8192), -1);
            due(9, "follows(3, 0, -1): -1 before -2", desk.follows(3, 0, -1), -1);
            // With no fitting scenario a wrong call is refused all the same.
            desk.limit(0, 1, 0);
        }
    }

    // Promises 10 to 13: the numbers of scenarios

    /** What is answered of a scenario that is there, is told elsewhere: here it counts as 0. */
    private static void numberDue(String where, IntervalDesk desk, int k, boolean isThere) {
        int want = isThere ? 0 : -2;
        due(10, "relation(" + k + ", 0, 1)" + where, Math.min(0, desk.relation(k, 0, 1)), want);
        due(11, "points(" + k + ")" + where, Math.min(0, desk.points(k)), want);
        due(12, "place(" + k + ", 0)" + where, Math.min(0, desk.place(k, 0)), want);
        due(13, "crowd(" + k + ")" + where, Math.min(0, desk.crowd(k)), want);
    }

    private static void scenarioNumbersOfAll() {
        for (int n = 2; n <= 4; n++) {
            int count = SCENARIOS[n];
            IntervalDesk desk = new IntervalDesk(n);
            for (int k : new int[] {LEAST, LEAST + 1, -count, -2, -1}) {
                numberDue(" below 0 of " + n, desk, k, false);
            }
            numberDue(" first of " + n, desk, 0, true);
            numberDue(" last of " + n, desk, count - 1, true);
            for (int k : new int[] {count, count + 1, 65536, 999999, 1000000, 1 << 30, MOST - 1, MOST}) {
                numberDue(" past the last of " + n, desk, k, false);
            }
        }
    }

    private static void scenarioNumbersWhereOneFits() {
        for (int n = 2; n <= 4; n++) {
            IntervalDesk desk = chain(n, 1);
            for (int k : new int[] {LEAST, -1, 1, 2, MOST}) {
                numberDue(" with one scenario of " + n, desk, k, false);
            }
            due(10, "relation(0, 0, 1)", desk.relation(0, 0, 1), 1);
            due(11, "points(0)", desk.points(0), n + 1);
            due(12, "place(0, 0)", desk.place(0, 0), 1);
            due(12, "place(0, n - 1)", desk.place(0, n - 1), 16 * (n - 1) + n);
            due(13, "crowd(0)", desk.crowd(0), 1);
        }
    }

    private static void scenarioNumbersWhereNoneFits() {
        for (int n = 2; n <= 4; n++) {
            IntervalDesk desk = new IntervalDesk(n);
            desk.limit(n - 1, n - 2, 0);
            for (int k : new int[] {LEAST, -1, 0, 1, MOST}) {
                numberDue(" with none of " + n, desk, k, false);
            }
        }
    }

    private static void relationRefused() {
        for (int n = 2; n <= 4; n++) {
            int[] numbers = {LEAST, -1, 0, SCENARIOS[n] - 1, SCENARIOS[n], MOST};
            IntervalDesk desk = new IntervalDesk(n);
            for (int k : numbers) {
                String what = "relation(" + k + ", ..) of " + n + ": -1 before -2";
                due(10, what, desk.relation(k, 0, 0), -1);
                due(10, what, desk.relation(k, n - 1, n - 1), -1);
                due(10, what, desk.relation(k, 0, n), -1);
                due(10, what, desk.relation(k, n, 0), -1);
                due(10, what, desk.relation(k, -1, 0), -1);
                due(10, what, desk.relation(k, 0, -1), -1);
                due(10, what, desk.relation(k, MOST, LEAST), -1);
            }
        }
    }

    private static void placeRefused() {
        for (int n = 2; n <= 4; n++) {
            int[] numbers = {LEAST, -1, 0, SCENARIOS[n] - 1, SCENARIOS[n], MOST};
            IntervalDesk desk = new IntervalDesk(n);
            for (int k : numbers) {
                for (int i : new int[] {LEAST, -1, n, n + 1, 1 << 30, MOST}) {
                    due(12, "place(" + k + ", " + i + ") of " + n + ": -1 before -2", desk.place(k, i), -1);
                }
            }
            desk.limit(0, 1, 0);
            due(12, "place(0, n) with none of " + n, desk.place(0, n), -1);
            due(12, "place(0, n - 1) with none of " + n, desk.place(0, n - 1), -2);
        }
    }

    // Promises 11 to 13: the least and the greatest answers

    private static void pointsLeastAndGreatest() {
        for (int n = 2; n <= 4; n++) {
            due(11, "points(0) of " + n + " that are the same", chain(n, 6).points(0), 2);
            due(11, "points(0) of " + n + " apart", new IntervalDesk(n).points(0), 2 * n);
            due(11, "points of the last of " + n, new IntervalDesk(n).points(SCENARIOS[n] - 1), 2 * n);
            due(11, "points(0) of " + n + " in one another", chain(n, 4).points(0), 2 * n);
            due(11, "points(0) of " + n + " that begin together", chain(n, 3).points(0), n + 1);
            due(11, "points(0) of " + n + " that end together", chain(n, 5).points(0), n + 1);
        }
    }

    private static void placeLeastAndGreatest() {
        for (int n = 2; n <= 4; n++) {
            int most = 16 * (2 * n - 2) + 2 * n - 1;
            for (int i = 0; i < n; i++) {
                due(12, "place(0, " + i + ") of " + n + " that are the same", chain(n, 6).place(0, i), 1);
                due(12, "place(0, " + i + ") in one another", chain(n, 4).place(0, i), 16 * (n - 1 - i) + n + i);
            }
            due(12, "place(0, 0) of " + n + " apart", new IntervalDesk(n).place(0, 0), 1);
            due(12, "place(0, n - 1) of " + n + " apart", new IntervalDesk(n).place(0, n - 1), most);
            due(12, "place of 0 in the last of " + n, new IntervalDesk(n).place(SCENARIOS[n] - 1, 0), most);
            due(12, "place of n - 1 in the last of " + n, new IntervalDesk(n).place(SCENARIOS[n] - 1, n - 1), 1);
        }
    }

    private static void crowdLeastAndGreatest() {
        for (int n = 2; n <= 4; n++) {
            due(13, "crowd(0) of " + n + " apart", new IntervalDesk(n).crowd(0), 1);
            due(13, "crowd of the last of " + n, new IntervalDesk(n).crowd(SCENARIOS[n] - 1), 1);
            for (int r = 3; r <= 9; r++) {
                due(13, "crowd(0) of a chain of " + n + " with {" + r + "}", chain(n, r).crowd(0), n);
            }
        }
    }

    private static void crowdOfAMeeting() {
        // A point alone is no stretch: those that only meet have none in common.
        for (int n = 2; n <= 4; n++) {
            due(13, "crowd(0) of " + n + " that meet", chain(n, 1).crowd(0), 1);
            due(13, "crowd(0) of " + n + " that meet, turned", chain(n, 11).crowd(0), 1);
        }
        // 0 and 1 meet 2 and 3, which begin where they end.
        IntervalDesk desk = new IntervalDesk(4);
        desk.limit(0, 1, setOf(5));
        desk.limit(1, 2, setOf(1));
        desk.limit(2, 3, setOf(3));
        due(13, "scenarios() of two that meet two", desk.scenarios(), 1);
        due(13, "crowd(0) of two that meet two", desk.crowd(0), 2);
        // 1 and 2 lie in 0; in the first scenario they meet there, in the second they overlap.
        IntervalDesk three = new IntervalDesk(3);
        three.limit(1, 0, setOf(4));
        three.limit(2, 0, setOf(4));
        three.limit(1, 2, setOf(1, 2));
        due(13, "crowd(0) of two that meet in one", three.crowd(0), 2);
        due(13, "crowd(1) of two that overlap in one", three.crowd(1), 3);
        due(13, "crowd(2)", three.crowd(2), -2);
    }

    // Promise 14

    private static void fewestWhereNoneFits() {
        for (int n = 2; n <= 4; n++) {
            IntervalDesk desk = new IntervalDesk(n);
            desk.limit(n - 1, 0, 0);
            due(14, "fewest() with none of " + n, desk.fewest(), -2);
            desk.free(0, n - 1);
            due(14, "fewest() of all again of " + n, desk.fewest(), 2);
        }
        IntervalDesk ring = chain(4, 0);
        ring.limit(3, 0, setOf(0));
        due(14, "fewest() of a ring", ring.fewest(), -2);
    }

    private static void fewestLeastAndGreatest() {
        for (int n = 2; n <= 4; n++) {
            due(14, "fewest() of " + n, new IntervalDesk(n).fewest(), 2);
            due(14, "fewest() of " + n + " that are the same", chain(n, 6).fewest(), 2);
            due(14, "fewest() of " + n + " apart", chain(n, 0).fewest(), 2 * n);
            due(14, "fewest() of " + n + " apart, turned", chain(n, 12).fewest(), 2 * n);
            due(14, "fewest() of " + n + " in one another", chain(n, 8).fewest(), 2 * n);
            due(14, "fewest() of " + n + " that meet", chain(n, 1).fewest(), n + 1);
        }
    }

    private static void fewestIsOverAllThatFit() {
        // The fewest in the first, in one between and in the last.
        int[][] sets = {{1, 2, 4}, {0, 1, 2}, {0, 2, 3}};
        for (int[] set : sets) {
            IntervalDesk desk = new IntervalDesk(2);
            desk.limit(0, 1, setOf(set));
            due(14, "fewest() with " + setOf(set), desk.fewest(), 3);
        }
    }

    // Promise 15

    private static void composeWithTheEmptySet() {
        IntervalDesk desk = new IntervalDesk(2);
        for (int set : new int[] {0, 1, 64, 4096, ALL}) {
            due(15, "compose({}, " + set + ")", desk.compose(0, set), 0);
            due(15, "compose(" + set + ", {})", desk.compose(set, 0), 0);
        }
    }

    private static void composeOfLeastAndGreatestSets() {
        IntervalDesk desk = new IntervalDesk(2);
        due(15, "compose(all, all)", desk.compose(ALL, ALL), ALL);
        for (int r = 0; r < 13; r++) {
            due(15, "compose({" + r + "}, {6})", desk.compose(1 << r, 64), 1 << r);
            due(15, "compose({6}, {" + r + "})", desk.compose(64, 1 << r), 1 << r);
            due(15, "compose(all, {" + r + "})", desk.compose(ALL, 1 << r), ALL);
            due(15, "compose({" + r + "}, all)", desk.compose(1 << r, ALL), ALL);
        }
        due(15, "compose({0}, {0})", desk.compose(1, 1), 1);
        due(15, "compose({12}, {12})", desk.compose(4096, 4096), 4096);
        due(15, "compose({0}, {12})", desk.compose(1, 4096), ALL);
        due(15, "compose({12}, {0})", desk.compose(4096, 1), ALL);
    }

    private static void composeOfNoSet() {
        IntervalDesk desk = new IntervalDesk(2);
        for (int no : new int[] {LEAST, -8192, -1, 8192, 8193, 16383, MOST}) {
            for (int set : new int[] {0, 1, ALL, no}) {
                due(15, "compose(" + no + ", " + set + ")", desk.compose(no, set), -2);
                due(15, "compose(" + set + ", " + no + ")", desk.compose(set, no), -2);
            }
        }
    }

    private static void composeTakesAnyIntervals() {
        // Neither how many intervals there are nor what is stated of them counts.
        for (int n = 2; n <= 4; n++) {
            IntervalDesk desk = new IntervalDesk(n);
            desk.limit(0, 1, 0);
            desk.limit(n - 1, n - 2, 0);
            due(15, "compose({2}, {2}) of " + n, desk.compose(4, 4), setOf(0, 1, 2));
            due(15, "compose({8}, {4}) of " + n, desk.compose(setOf(8), setOf(4)), setOf(2, 3, 4, 5, 6, 7, 8, 9, 10));
        }
    }

    // Promise 16

    private static void closedOfTwo() {
        for (int set : new int[] {0, 1, setOf(3, 8), 4096, ALL}) {
            IntervalDesk desk = new IntervalDesk(2);
            desk.limit(0, 1, set);
            due(16, "closed(0, 1) of two with " + set, desk.closed(0, 1), set);
            due(16, "closed(1, 0) of two with " + set, desk.closed(1, 0), desk.stated(1, 0));
        }
    }

    private static void closedWhereEverythingIsDropped() {
        for (int n = 3; n <= 4; n++) {
            for (int i = 0; i < n; i++) {
                for (int j = 0; j < n; j++) {
                    IntervalDesk ring = chain(n, 0);
                    ring.limit(n - 1, 0, setOf(0));
                    due(16, "closed(" + i + ", " + j + ") of a ring of " + n, ring.closed(i, j), i == j ? -1 : 0);
                }
            }
        }
    }

    private static void closedWhereNothingIsDropped() {
        for (int n = 2; n <= 4; n++) {
            IntervalDesk all = new IntervalDesk(n);
            IntervalDesk one = new IntervalDesk(n);
            one.limit(0, 1, setOf(0));
            for (int i = 0; i < n; i++) {
                for (int j = i + 1; j < n; j++) {
                    String pair = "closed(" + i + ", " + j + ") of " + n;
                    due(16, pair, all.closed(i, j), ALL);
                    due(16, pair + " with one pair limited", one.closed(i, j), j == 1 ? setOf(0) : ALL);
                    due(16, pair + " turned", one.closed(j, i), j == 1 ? setOf(12) : ALL);
                }
            }
        }
        // 0 before 1 before 2, all of it stated.
        IntervalDesk three = chain(3, 0);
        three.limit(0, 2, setOf(0));
        due(16, "closed(0, 2) of what is closed", three.closed(0, 2), setOf(0));
        due(16, "closed(0, 1) of what is closed", three.closed(0, 1), setOf(0));
        due(16, "closed(2, 1) of what is closed", three.closed(2, 1), setOf(12));
    }

    private static void closedWithAnEmptySetElsewhere() {
        for (int n = 3; n <= 4; n++) {
            for (int i = 0; i < n; i++) {
                for (int j = 0; j < n; j++) {
                    IntervalDesk desk = new IntervalDesk(n);
                    desk.limit(n - 1, n - 2, 0);
                    due(16, "closed(" + i + ", " + j + ") with an empty set", desk.closed(i, j), i == j ? -1 : 0);
                }
            }
        }
    }

    private static void closedGoesOnUntilNothingIsDropped() {
        // In every order of the four, as one look at all threes may be enough in some of them.
        for (int a = 0; a < 4; a++) {
            for (int b = 0; b < 4; b++) {
                for (int c = 0; c < 4; c++) {
                    if (a != b && a != c && b != c) {
                        closedInTwoStepsDue(a, b, c, 6 - a - b - c);
                    }
                }
            }
        }
    }

    /** As d lies in b and after c, b can't end with c but begins where c ends; only then is a known to be before b. */
    private static void closedInTwoStepsDue(int a, int b, int c, int d) {
        IntervalDesk desk = new IntervalDesk(4);
        desk.limit(a, c, setOf(3));
        desk.limit(b, c, setOf(7, 11));
        desk.limit(b, d, setOf(8));
        desk.limit(c, d, setOf(0));
        due(16, "closed(" + b + ", " + c + ")", desk.closed(b, c), setOf(11));
        due(16, "closed(" + a + ", " + b + ")", desk.closed(a, b), setOf(0));
        due(16, "closed(" + b + ", " + a + ")", desk.closed(b, a), setOf(12));
    }

    private static void closedRefused() {
        for (int n = 2; n <= 4; n++) {
            IntervalDesk desk = new IntervalDesk(n);
            for (int round = 0; round < 2; round++) {
                due(16, "closed(0, 0) of " + n, desk.closed(0, 0), -1);
                due(16, "closed(n - 1, n - 1) of " + n, desk.closed(n - 1, n - 1), -1);
                due(16, "closed(0, n) of " + n, desk.closed(0, n), -1);
                due(16, "closed(n, 0) of " + n, desk.closed(n, 0), -1);
                due(16, "closed(-1, 1) of " + n, desk.closed(-1, 1), -1);
                due(16, "closed(1, -1) of " + n, desk.closed(1, -1), -1);
                due(16, "closed(least, most) of " + n, desk.closed(LEAST, MOST), -1);
                desk.limit(0, 1, 0);
            }
        }
    }

    private static void closedLeavesWhatIsStated() {
        IntervalDesk desk = chain(4, 1);
        for (int again = 0; again < 2; again++) {
            due(16, "closed(0, 2)", desk.closed(0, 2), setOf(0));
            due(16, "closed(3, 0)", desk.closed(3, 0), setOf(12));
            due(16, "stated(0, 2)", desk.stated(0, 2), ALL);
            due(16, "stated(3, 0)", desk.stated(3, 0), ALL);
            due(16, "stated(1, 3)", desk.stated(1, 3), ALL);
            due(16, "stated(0, 1)", desk.stated(0, 1), setOf(1));
        }
        // What was dropped for one question comes back for the next, once more is stated.
        desk.free(1, 2);
        due(16, "closed(0, 2) after free(1, 2)", desk.closed(0, 2), ALL);
        due(16, "closed(0, 3) after free(1, 2)", desk.closed(0, 3), ALL);
        desk.limit(0, 2, 0);
        due(16, "closed(1, 3) with an empty set", desk.closed(1, 3), 0);
        due(16, "stated(1, 3)", desk.stated(1, 3), ALL);
        due(16, "free(2, 0)", desk.free(2, 0), 0);
        due(16, "closed(1, 3) after free(2, 0)", desk.closed(1, 3), ALL);
    }
}
