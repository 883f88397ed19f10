/** For each promise ordinary calls, the edges that the document names, and wrong calls; answers made by hand. */
public final class PromisesTest {
    private static final int ALL = 8191;
    private static final int LEAST = Integer.MIN_VALUE;
    private static final int MOST = Integer.MAX_VALUE;
    private static int wrong = 0;

    public static void main(String[] args) {
        promise1();
        promise2();
        promise3();
        promise4And5();
        promise6();
        promise7();
        promise8();
        promise9();
        promise10();
        promise10Order();
        promise11();
        promise12();
        promise13();
        promise14();
        promise15();
        promise16();
        promise16OfFour();
        refusedCallsChangeNothing();
        questionsChangeNothing();
        System.out.println(wrong == 0 ? "all answers are as due" : wrong + " answers are not as due");
        if (wrong != 0) {
            System.exit(1);
        }
    }

    private static void due(int promise, String call, int got, int want) {
        if (got != want) {
            wrong++;
            System.out.println("promise " + promise + ": " + call + " answered " + got + ", due is " + want);
        }
    }

    private static int setOf(int... relations) {
        int set = 0;
        for (int r : relations) {
            set |= 1 << r;
        }
        return set;
    }

    private static void promise1() {
        int[] asked = {LEAST, -1, 0, 1, 2, 3, 4, 5, MOST};
        int[] made = {2, 2, 2, 2, 2, 3, 4, 4, 4};
        for (int t = 0; t < asked.length; t++) {
            IntervalDesk desk = new IntervalDesk(asked[t]);
            String what = "of " + asked[t];
            for (int j = 1; j < made[t]; j++) {
                due(1, "stated(0, " + j + ") " + what, desk.stated(0, j), ALL);
                due(1, "stated(" + j + ", 0) " + what, desk.stated(j, 0), ALL);
            }
            due(1, "stated(0, n) " + what, desk.stated(0, made[t]), -1);
            due(1, "pop() " + what, desk.pop(), -1);
        }
        IntervalDesk one = new IntervalDesk(2);
        IntervalDesk other = new IntervalDesk(2);
        one.limit(0, 1, 1);
        one.push();
        due(1, "stated(0, 1) of an object beside", other.stated(0, 1), ALL);
        due(1, "pop() of an object beside", other.pop(), -1);
    }

    private static void promise2() {
        IntervalDesk desk = new IntervalDesk(3);
        due(2, "limit(0, 1, all)", desk.limit(0, 1, ALL), 13);
        due(2, "limit(0, 1, {0, 1, 2, 6})", desk.limit(0, 1, setOf(0, 1, 2, 6)), 4);
        due(2, "stated(0, 1)", desk.stated(0, 1), setOf(0, 1, 2, 6));
        due(2, "stated(1, 0)", desk.stated(1, 0), setOf(12, 11, 10, 6));
        due(2, "stated(0, 2)", desk.stated(0, 2), ALL);
        due(2, "limit(1, 0, {12, 6, 3})", desk.limit(1, 0, setOf(12, 6, 3)), 2);
        due(2, "stated(0, 1)", desk.stated(0, 1), setOf(0, 6));
        due(2, "limit(0, 1, {5})", desk.limit(0, 1, setOf(5)), 0);
        due(2, "limit(0, 1, all)", desk.limit(0, 1, ALL), 0);
        due(2, "stated(1, 0)", desk.stated(1, 0), 0);
        due(2, "limit(2, 1, {})", desk.limit(2, 1, 0), 0);
        due(2, "stated(1, 2)", desk.stated(1, 2), 0);
        due(2, "limit(0, 0, 1)", desk.limit(0, 0, 1), -1);
        due(2, "limit(0, 3, 1)", desk.limit(0, 3, 1), -1);
        due(2, "limit(3, 0, 1)", desk.limit(3, 0, 1), -1);
        due(2, "limit(-1, 0, 1)", desk.limit(-1, 0, 1), -1);
        due(2, "limit(0, least, 1)", desk.limit(0, LEAST, 1), -1);
        due(2, "limit(most, most, 1)", desk.limit(MOST, MOST, 1), -1);
        due(2, "limit(0, 2, 8192)", desk.limit(0, 2, 8192), -2);
        due(2, "limit(0, 2, -1)", desk.limit(0, 2, -1), -2);
        due(2, "limit(0, 2, most)", desk.limit(0, 2, MOST), -2);
        due(2, "limit(0, 2, least)", desk.limit(0, 2, LEAST), -2);
        due(2, "limit(0, 0, 8192): intervals first", desk.limit(0, 0, 8192), -1);
        due(2, "limit(0, 3, -1): intervals first", desk.limit(0, 3, -1), -1);
        due(2, "stated(0, 2) after refused calls", desk.stated(0, 2), ALL);
    }

    private static void promise3() {
        IntervalDesk desk = new IntervalDesk(3);
        due(3, "free(0, 1)", desk.free(0, 1), 13);
        desk.limit(0, 1, setOf(0, 12, 4));
        desk.limit(0, 2, setOf(5));
        due(3, "free(1, 0)", desk.free(1, 0), 3);
        due(3, "stated(0, 1)", desk.stated(0, 1), ALL);
        due(3, "stated(1, 0)", desk.stated(1, 0), ALL);
        due(3, "stated(0, 2)", desk.stated(0, 2), setOf(5));
        desk.limit(1, 2, 0);
        due(3, "free(1, 2)", desk.free(1, 2), 0);
        due(3, "stated(2, 1)", desk.stated(2, 1), ALL);
        due(3, "free(2, 2)", desk.free(2, 2), -1);
        due(3, "free(0, 3)", desk.free(0, 3), -1);
        due(3, "free(-1, 2)", desk.free(-1, 2), -1);
        due(3, "free(most, least)", desk.free(MOST, LEAST), -1);
        due(3, "stated(0, 2) after refused calls", desk.stated(0, 2), setOf(5));
    }

    private static void promise4And5() {
        IntervalDesk desk = new IntervalDesk(4);
        due(5, "pop() of an empty pile", desk.pop(), -1);
        for (int kept = 1; kept <= 6; kept++) {
            due(4, "push()", desk.push(), kept);
            desk.limit(2, 3, ALL & ~(1 << kept));
            desk.limit(0, 1, ALL & ~(2 << kept));
        }
        due(4, "push() on a pile of 6", desk.push(), -1);
        due(4, "push() on a pile of 6 again", desk.push(), -1);
        due(4, "stated(2, 3)", desk.stated(2, 3), ALL & ~setOf(1, 2, 3, 4, 5, 6));
        int left = ALL & ~setOf(1, 2, 3, 4, 5, 6);
        for (int kept = 5; kept >= 0; kept--) {
            left |= 2 << kept;
            due(5, "pop()", desk.pop(), kept);
            due(5, "stated(2, 3) after pop()", desk.stated(2, 3), left);
            due(5, "stated(0, 1) after pop()", desk.stated(0, 1), left << 1 & ALL | 1);
            due(5, "stated(1, 3) after pop()", desk.stated(1, 3), ALL);
        }
        due(5, "pop() of an empty pile", desk.pop(), -1);
        due(5, "stated(2, 3) after a refused pop()", desk.stated(2, 3), ALL);
        desk.limit(3, 0, setOf(12));
        due(4, "push() after all was popped", desk.push(), 1);
        desk.free(0, 3);
        due(5, "pop()", desk.pop(), 0);
        due(5, "stated(0, 3)", desk.stated(0, 3), setOf(0));
        due(5, "stated(3, 0)", desk.stated(3, 0), setOf(12));
    }

    private static void promise6() {
        IntervalDesk desk = new IntervalDesk(4);
        due(6, "stated(3, 2)", desk.stated(3, 2), ALL);
        desk.limit(3, 2, setOf(0, 1, 4));
        due(6, "stated(3, 2)", desk.stated(3, 2), setOf(0, 1, 4));
        due(6, "stated(2, 3)", desk.stated(2, 3), setOf(12, 11, 8));
        due(6, "stated(1, 1)", desk.stated(1, 1), -1);
        due(6, "stated(4, 0)", desk.stated(4, 0), -1);
        due(6, "stated(0, 4)", desk.stated(0, 4), -1);
        due(6, "stated(-1, 0)", desk.stated(-1, 0), -1);
        due(6, "stated(0, -1)", desk.stated(0, -1), -1);
        due(6, "stated(least, most)", desk.stated(LEAST, MOST), -1);
        IntervalDesk small = new IntervalDesk(2);
        due(6, "stated(1, 2) of two", small.stated(1, 2), -1);
        due(6, "stated(1, 0) of two", small.stated(1, 0), ALL);
    }

    private static void promise7() {
        due(7, "scenarios() of two", new IntervalDesk(2).scenarios(), 13);
        due(7, "scenarios() of three", new IntervalDesk(3).scenarios(), 409);
        IntervalDesk desk = new IntervalDesk(4);
        due(7, "scenarios() of four", desk.scenarios(), 23917);
        // With 0 and 3 the same, and 1 and 2 the same, there are but two intervals.
        desk.limit(0, 3, setOf(6));
        due(7, "scenarios() with two the same", desk.scenarios(), 409);
        desk.limit(2, 1, setOf(6));
        due(7, "scenarios() with two and two the same", desk.scenarios(), 13);
        desk.limit(0, 1, setOf(0, 4, 9));
        due(7, "scenarios() then", desk.scenarios(), 3);
        desk.limit(2, 3, setOf(0));
        due(7, "scenarios() with none", desk.scenarios(), 0);
        desk.free(2, 3);
        desk.limit(0, 3, 0);
        due(7, "scenarios() with an empty set", desk.scenarios(), 0);
        // Each two of the three agree, and yet all three can't be: 0 before 1 before 2 before 0.
        IntervalDesk ring = new IntervalDesk(3);
        ring.limit(0, 1, setOf(0));
        ring.limit(1, 2, setOf(0));
        ring.limit(2, 0, setOf(0));
        due(7, "scenarios() of a ring", ring.scenarios(), 0);
    }

    private static void promise8() {
        IntervalDesk desk = new IntervalDesk(3);
        due(8, "possible(2, 1)", desk.possible(2, 1), ALL);
        desk.limit(0, 1, setOf(1));
        desk.limit(1, 2, setOf(11));
        due(8, "possible(0, 2)", desk.possible(0, 2), setOf(5, 6, 7));
        desk.limit(0, 2, setOf(0, 5));
        due(8, "possible(0, 2)", desk.possible(0, 2), setOf(5));
        due(8, "possible(2, 0)", desk.possible(2, 0), setOf(7));
        due(8, "stated(0, 2)", desk.stated(0, 2), setOf(0, 5));
        desk.limit(0, 2, setOf(0));
        due(8, "possible(0, 1) with no scenario", desk.possible(0, 1), 0);
        due(8, "possible(1, 1)", desk.possible(1, 1), -1);
        due(8, "possible(0, 3)", desk.possible(0, 3), -1);
        due(8, "possible(-1, 0)", desk.possible(-1, 0), -1);
    }

    private static void promise9() {
        IntervalDesk desk = new IntervalDesk(3);
        due(9, "follows(0, 1, all)", desk.follows(0, 1, ALL), 1);
        due(9, "follows(0, 1, all but 6)", desk.follows(0, 1, ALL & ~setOf(6)), 0);
        due(9, "follows(0, 1, {})", desk.follows(0, 1, 0), 0);
        desk.limit(0, 1, setOf(4));
        desk.limit(1, 2, setOf(0, 1));
        due(9, "follows(0, 2, {0})", desk.follows(0, 2, setOf(0)), 1);
        due(9, "follows(2, 0, {12, 3})", desk.follows(2, 0, setOf(12, 3)), 1);
        due(9, "follows(2, 0, {0})", desk.follows(2, 0, setOf(0)), 0);
        due(9, "follows(1, 2, {0})", desk.follows(1, 2, setOf(0)), 0);
        desk.limit(2, 0, setOf(0));
        due(9, "follows(0, 1, {}) with no scenario", desk.follows(0, 1, 0), 1);
        due(9, "follows(0, 0, 1)", desk.follows(0, 0, 1), -1);
        due(9, "follows(3, 0, 1)", desk.follows(3, 0, 1), -1);
        due(9, "follows(0, 1, 8192)", desk.follows(0, 1, 8192), -2);
        due(9, "follows(0, 1, -1)", desk.follows(0, 1, -1), -2);
        due(9, "follows(0, -1, -1): intervals first", desk.follows(0, -1, -1), -1);
        due(9, "follows(1, 1, 8192): intervals first", desk.follows(1, 1, 8192), -1);
    }

    private static void promise10() {
        IntervalDesk desk = new IntervalDesk(2);
        for (int k = 0; k < 13; k++) {
            due(10, "relation(" + k + ", 0, 1)", desk.relation(k, 0, 1), k);
            due(10, "relation(" + k + ", 1, 0)", desk.relation(k, 1, 0), 12 - k);
        }
        due(10, "relation(13, 0, 1)", desk.relation(13, 0, 1), -2);
        due(10, "relation(-1, 0, 1)", desk.relation(-1, 0, 1), -2);
        due(10, "relation(least, 0, 1)", desk.relation(LEAST, 0, 1), -2);
        due(10, "relation(most, 0, 1)", desk.relation(MOST, 0, 1), -2);
        due(10, "relation(0, 0, 0)", desk.relation(0, 0, 0), -1);
        due(10, "relation(0, 0, 2)", desk.relation(0, 0, 2), -1);
        due(10, "relation(13, 2, 0): intervals first", desk.relation(13, 2, 0), -1);
        due(10, "relation(-1, 1, 1): intervals first", desk.relation(-1, 1, 1), -1);
        desk.limit(0, 1, setOf(3, 7, 11));
        due(10, "relation(1, 0, 1)", desk.relation(1, 0, 1), 7);
        due(10, "relation(2, 0, 1)", desk.relation(2, 0, 1), 11);
        due(10, "relation(3, 0, 1)", desk.relation(3, 0, 1), -2);
        desk.limit(0, 1, 0);
        due(10, "relation(0, 0, 1) with no scenario", desk.relation(0, 0, 1), -2);
    }

    private static void promise10Order() {
        // 0 to 1 decides before 0 to 2, and that before 1 to 2.
        IntervalDesk three = new IntervalDesk(3);
        int[] first = {0, 0, 0};
        int[] last = {12, 12, 12};
        orderDue(three, 0, first);
        orderDue(three, 408, last);
        due(10, "relation(409, 0, 1)", three.relation(409, 0, 1), -2);
        three.limit(0, 1, setOf(0, 12));
        three.limit(0, 2, setOf(0, 12));
        three.limit(1, 2, setOf(0, 12));
        orderDue(three, 0, new int[] {0, 0, 0});
        orderDue(three, 1, new int[] {0, 0, 12});
        orderDue(three, 2, new int[] {0, 12, 12});
        orderDue(three, 3, new int[] {12, 0, 0});
        orderDue(three, 4, new int[] {12, 12, 0});
        orderDue(three, 5, new int[] {12, 12, 12});
        // 0 to 3 decides before 1 to 2.
        IntervalDesk four = new IntervalDesk(4);
        due(10, "relation(23916, 3, 2)", four.relation(23916, 3, 2), 0);
        due(10, "relation(23917, 3, 2)", four.relation(23917, 3, 2), -2);
        four.limit(0, 1, setOf(0));
        four.limit(0, 2, setOf(0));
        four.limit(0, 3, setOf(0, 12));
        four.limit(1, 2, setOf(0, 12));
        four.limit(1, 3, setOf(12));
        four.limit(2, 3, setOf(12));
        int[] thirds = {0, 0, 12, 12};
        int[] fourths = {0, 12, 0, 12};
        for (int k = 0; k < 4; k++) {
            due(10, "relation(" + k + ", 0, 3)", four.relation(k, 0, 3), thirds[k]);
            due(10, "relation(" + k + ", 1, 2)", four.relation(k, 1, 2), fourths[k]);
        }
        due(10, "relation(4, 0, 3)", four.relation(4, 0, 3), -2);
    }

    private static void orderDue(IntervalDesk desk, int k, int[] relations) {
        due(10, "relation(" + k + ", 0, 1)", desk.relation(k, 0, 1), relations[0]);
        due(10, "relation(" + k + ", 0, 2)", desk.relation(k, 0, 2), relations[1]);
        due(10, "relation(" + k + ", 1, 2)", desk.relation(k, 1, 2), relations[2]);
    }

    private static void promise11() {
        IntervalDesk desk = new IntervalDesk(2);
        int[] points = {4, 3, 4, 3, 4, 3, 2, 3, 4, 3, 4, 3, 4};
        for (int k = 0; k < 13; k++) {
            due(11, "points(" + k + ")", desk.points(k), points[k]);
        }
        due(11, "points(13)", desk.points(13), -2);
        due(11, "points(-1)", desk.points(-1), -2);
        due(11, "points(most)", desk.points(MOST), -2);
        due(11, "points(least)", desk.points(LEAST), -2);
        IntervalDesk four = new IntervalDesk(4);
        due(11, "points(0) of four apart", four.points(0), 8);
        four.limit(0, 1, setOf(1));
        four.limit(1, 2, setOf(1));
        four.limit(2, 3, setOf(1));
        due(11, "points(0) of four that meet", four.points(0), 5);
        due(11, "points(1) of four that meet", four.points(1), -2);
        four.limit(0, 3, setOf(12));
        due(11, "points(0) with no scenario", four.points(0), -2);
    }

    private static void promise12() {
        IntervalDesk desk = new IntervalDesk(2);
        // The numbers of b(0), e(0), b(1), e(1) for each relation of 0 to 1.
        int[][] ends = {
            {0, 1, 2, 3}, {0, 1, 1, 2}, {0, 2, 1, 3}, {0, 1, 0, 2}, {1, 2, 0, 3}, {1, 2, 0, 2}, {0, 1, 0, 1},
            {0, 2, 1, 2}, {0, 3, 1, 2}, {0, 2, 0, 1}, {1, 3, 0, 2}, {1, 2, 0, 1}, {2, 3, 0, 1}};
        for (int k = 0; k < 13; k++) {
            due(12, "place(" + k + ", 0)", desk.place(k, 0), 16 * ends[k][0] + ends[k][1]);
            due(12, "place(" + k + ", 1)", desk.place(k, 1), 16 * ends[k][2] + ends[k][3]);
        }
        due(12, "place(13, 0)", desk.place(13, 0), -2);
        due(12, "place(-1, 0)", desk.place(-1, 0), -2);
        due(12, "place(0, 2)", desk.place(0, 2), -1);
        due(12, "place(0, -1)", desk.place(0, -1), -1);
        due(12, "place(0, most)", desk.place(0, MOST), -1);
        due(12, "place(-1, 2): interval first", desk.place(-1, 2), -1);
        due(12, "place(13, -1): interval first", desk.place(13, -1), -1);
        IntervalDesk four = new IntervalDesk(4);
        due(12, "place(0, 3) of four apart", four.place(0, 3), 16 * 6 + 7);
        due(12, "place(23916, 3) of four", four.place(23916, 3), 1);
        due(12, "place(23916, 0) of four", four.place(23916, 0), 16 * 6 + 7);
        due(12, "place(23917, 0) of four", four.place(23917, 0), -2);
        // 3 in 2 in 1 in 0, where 3 begins with 2 and 1 ends with 0.
        four.limit(3, 2, setOf(3));
        four.limit(2, 1, setOf(4));
        four.limit(1, 0, setOf(5));
        due(12, "place(0, 0)", four.place(0, 0), 5);
        due(12, "place(0, 1)", four.place(0, 1), 16 + 5);
        due(12, "place(0, 2)", four.place(0, 2), 2 * 16 + 4);
        due(12, "place(0, 3)", four.place(0, 3), 2 * 16 + 3);
    }

    private static void promise13() {
        IntervalDesk desk = new IntervalDesk(2);
        for (int k = 0; k < 13; k++) {
            due(13, "crowd(" + k + ")", desk.crowd(k), k < 2 || k > 10 ? 1 : 2);
        }
        due(13, "crowd(13)", desk.crowd(13), -2);
        due(13, "crowd(-1)", desk.crowd(-1), -2);
        due(13, "crowd(least)", desk.crowd(LEAST), -2);
        IntervalDesk four = new IntervalDesk(4);
        due(13, "crowd(0) of four apart", four.crowd(0), 1);
        // 0 has a stretch in common with each of the others, but they have none with one another.
        four.limit(0, 1, setOf(8));
        four.limit(0, 2, setOf(8));
        four.limit(0, 3, setOf(8));
        four.limit(1, 2, setOf(1));
        four.limit(2, 3, setOf(0));
        due(13, "crowd(0) of three in one", four.crowd(0), 2);
        four.free(1, 2);
        four.limit(1, 2, setOf(2));
        due(13, "crowd(0) of two that overlap in one", four.crowd(0), 3);
        four.free(2, 3);
        four.limit(2, 3, setOf(6));
        due(13, "crowd(0) of three that overlap in one", four.crowd(0), 4);
        four.limit(0, 1, 0);
        due(13, "crowd(0) with no scenario", four.crowd(0), -2);
    }

    private static void promise14() {
        due(14, "fewest() of two", new IntervalDesk(2).fewest(), 2);
        due(14, "fewest() of four", new IntervalDesk(4).fewest(), 2);
        IntervalDesk desk = new IntervalDesk(3);
        desk.limit(0, 1, setOf(0, 2));
        due(14, "fewest() with four ends of two", desk.fewest(), 4);
        desk.limit(1, 2, setOf(0));
        due(14, "fewest() with a third after them", desk.fewest(), 6);
        desk.free(1, 2);
        desk.free(0, 1);
        // The last scenario has more points than the first.
        desk.limit(0, 1, setOf(6, 12));
        desk.limit(1, 2, setOf(6, 12));
        due(14, "fewest() with the fewest first", desk.fewest(), 2);
        desk.limit(0, 1, setOf(12));
        due(14, "fewest() then", desk.fewest(), 4);
        desk.limit(0, 1, 0);
        due(14, "fewest() with no scenario", desk.fewest(), -2);
    }

    private static void promise15() {
        IntervalDesk desk = new IntervalDesk(2);
        int[][] rows = {
            {setOf(0), setOf(0), setOf(0)},
            {setOf(0), setOf(4), setOf(0, 1, 2, 3, 4)},
            {setOf(4), setOf(0), setOf(0)},
            {setOf(0), setOf(12), ALL},
            {setOf(4), setOf(4), setOf(4)},
            {setOf(4), setOf(8), ALL},
            {setOf(8), setOf(4), setOf(2, 3, 4, 5, 6, 7, 8, 9, 10)},
            {setOf(1), setOf(1), setOf(0)},
            {setOf(1), setOf(11), setOf(5, 6, 7)},
            {setOf(11), setOf(1), setOf(3, 6, 9)},
            {setOf(3), setOf(4), setOf(4)},
            {setOf(6), setOf(1, 5, 12), setOf(1, 5, 12)},
            {setOf(1, 5, 12), setOf(6), setOf(1, 5, 12)},
            {setOf(1, 4), setOf(1, 0), setOf(0)},
            {ALL, ALL, ALL},
            {0, ALL, 0},
            {ALL, 0, 0},
            {0, 0, 0},
            {8192, 1, -2},
            {1, 8192, -2},
            {-1, 1, -2},
            {1, -1, -2},
            {0, LEAST, -2},
            {MOST, 0, -2}};
        for (int[] row : rows) {
            due(15, "compose(" + row[0] + ", " + row[1] + ")", desk.compose(row[0], row[1]), row[2]);
        }
        desk.limit(0, 1, 0);
        due(15, "compose(4, 4), whatever is stated", desk.compose(4, 4), 7);
    }

    private static void promise16() {
        IntervalDesk two = new IntervalDesk(2);
        two.limit(0, 1, setOf(3, 8));
        due(16, "closed(1, 0) of two", two.closed(1, 0), setOf(4, 9));
        due(16, "closed(0, 2) of two", two.closed(0, 2), -1);

        IntervalDesk three = new IntervalDesk(3);
        due(16, "closed(0, 2)", three.closed(0, 2), ALL);
        three.limit(0, 1, setOf(1));
        three.limit(2, 1, setOf(1));
        due(16, "closed(0, 2)", three.closed(0, 2), setOf(5, 6, 7));
        due(16, "closed(2, 0)", three.closed(2, 0), setOf(5, 6, 7));
        due(16, "stated(0, 2)", three.stated(0, 2), ALL);
        three.limit(0, 2, setOf(0));
        due(16, "closed(0, 1) where none is left", three.closed(0, 1), 0);
        due(16, "closed(1, 1)", three.closed(1, 1), -1);
        due(16, "closed(3, 1)", three.closed(3, 1), -1);
        due(16, "closed(1, least)", three.closed(1, LEAST), -1);
    }

    private static void promise16OfFour() {
        // What is dropped of one pair drops more of the next: the chain goes through all four.
        IntervalDesk chain = new IntervalDesk(4);
        chain.limit(0, 1, setOf(0));
        chain.limit(1, 2, setOf(0));
        chain.limit(2, 3, setOf(0));
        due(16, "closed(3, 0)", chain.closed(3, 0), setOf(12));
        chain.limit(1, 3, 0);
        due(16, "closed(0, 2) with an empty set elsewhere", chain.closed(0, 2), 0);

        // 3 is in 1 and after 2, so 1 can't end with 2 and begins where 2 ends; only then is 0 known to be before 1.
        IntervalDesk twice = new IntervalDesk(4);
        twice.limit(0, 2, setOf(3));
        twice.limit(1, 2, setOf(7, 11));
        twice.limit(1, 3, setOf(8));
        twice.limit(2, 3, setOf(0));
        due(16, "closed(1, 2)", twice.closed(1, 2), setOf(11));
        due(16, "closed(0, 1)", twice.closed(0, 1), setOf(0));
        due(16, "closed(1, 0)", twice.closed(1, 0), setOf(12));

        // Closing may leave what no scenario has. 0 lies in 2, and so in 1; or 0 begins where 2 ends, then 3 can't
        // begin with 0 but begins inside it and ends after it, in 1, so that 0 lies in 1 too.
        IntervalDesk desk = new IntervalDesk(4);
        desk.limit(0, 2, setOf(4, 11));
        desk.limit(0, 3, setOf(2, 9));
        desk.limit(1, 2, setOf(8));
        desk.limit(1, 3, setOf(8));
        desk.limit(2, 3, setOf(0, 8));
        due(16, "closed(0, 1)", desk.closed(0, 1), setOf(4, 5, 10));
        due(8, "possible(0, 1)", desk.possible(0, 1), setOf(4));
        due(9, "follows(0, 1, {4})", desk.follows(0, 1, setOf(4)), 1);
    }

    private static void refusedCallsChangeNothing() {
        IntervalDesk desk = new IntervalDesk(3);
        desk.limit(0, 1, setOf(2, 3));
        desk.push();
        desk.limit(0, 2, setOf(7));
        desk.limit(0, 3, 0);
        desk.limit(1, 1, 0);
        desk.limit(0, 1, 8192);
        desk.limit(1, 2, -8192);
        desk.free(0, 0);
        desk.free(0, 3);
        due(2, "stated(0, 1) after refused calls", desk.stated(0, 1), setOf(2, 3));
        due(2, "stated(0, 2) after refused calls", desk.stated(0, 2), setOf(7));
        due(2, "stated(1, 2) after refused calls", desk.stated(1, 2), ALL);
        due(5, "pop() after refused calls", desk.pop(), 0);
        due(5, "stated(0, 2) after pop()", desk.stated(0, 2), ALL);
        due(5, "pop() refused", desk.pop(), -1);
        due(5, "stated(0, 1) after a refused pop()", desk.stated(0, 1), setOf(2, 3));
    }

    private static void questionsChangeNothing() {
        IntervalDesk desk = new IntervalDesk(3);
        desk.limit(0, 1, setOf(0));
        desk.push();
        desk.limit(1, 2, setOf(0, 1));
        for (int again = 0; again < 2; again++) {
            due(7, "scenarios()", desk.scenarios(), 2);
            due(8, "possible(0, 2)", desk.possible(0, 2), setOf(0));
            due(9, "follows(1, 2, {1})", desk.follows(1, 2, setOf(1)), 0);
            due(10, "relation(1, 2, 1)", desk.relation(1, 2, 1), 11);
            due(11, "points(1)", desk.points(1), 5);
            due(12, "place(1, 2)", desk.place(1, 2), 3 * 16 + 4);
            due(13, "crowd(1)", desk.crowd(1), 1);
            due(14, "fewest()", desk.fewest(), 5);
            due(15, "compose(1, 1)", desk.compose(1, 1), 1);
            due(16, "closed(0, 2)", desk.closed(0, 2), setOf(0));
            due(6, "stated(0, 2)", desk.stated(0, 2), ALL);
            due(6, "stated(0, 1)", desk.stated(0, 1), setOf(0));
            due(6, "stated(1, 2)", desk.stated(1, 2), setOf(0, 1));
        }
        due(5, "pop()", desk.pop(), 0);
        due(5, "stated(1, 2)", desk.stated(1, 2), ALL);
    }
}
