/** Part 4 of the terms as far as choirs, crowds and rounds go, and promises 28 to 33. */
final class BoundsOfChoirs {
    private static final int OUTSIDE = SungSteps.OUTSIDE, NOT = SungSteps.NOT, FULL = SungSteps.FULL;
    private static final int LEAST = Integer.MIN_VALUE, MOST = Integer.MAX_VALUE;

    private BoundsOfChoirs() {
    }

    // ---- part 4: choirs

    /** By the whole game: some with no slip against them, some with one; can so few passes tell who growls? */
    private static boolean canTell(int free, int slipped, int e, int passes) {
        if (free + slipped <= 1) return true;
        if (passes == 0 || free + slipped > 1 << passes) return false;
        for (int a = 0; a <= free; a++) {
            for (int b = 0; b <= slipped; b++) {
                if (canTell(a, b + e * (free - a), e, passes - 1) && canTell(free - a, slipped - b + e * a, e, passes - 1)) return true;
            }
        }
        return false;
    }

    @Says("Part 4: A CHOIR of n (1 .. 16), one of whom growls; a PASS of an ear by some tells whether one of these does,")
    @Says("Part 4: PASSES: the fewest by which one is surely known.")
    static void t4_passesFromOneTo16() {
        SungSteps x = new SungSteps();
        int[] want = {0, 1, 2, 2, 3, 3, 3, 3, 4, 4, 4, 4, 4, 4, 4, 4};
        for (int n = 1; n <= 16; n++) {
            Check.due("passes of " + n, x.passes(n, 0), want[n - 1]);
            Check.holds("so many can tell", canTell(n, 0, 0, want[n - 1]));
            Check.holds("fewer can not", want[n - 1] == 0 || !canTell(n, 0, 0, want[n - 1] - 1));
        }
    }

    @Says("Part 4: with at most e (0, 1) slips in all:")
    static void t4_passesWithASlipFromOneTo16() {
        SungSteps x = new SungSteps();
        int[] want = {0, 3, 5, 5, 6, 6, 6, 6, 7, 7, 7, 7, 7, 7, 7, 7};
        for (int n = 1; n <= 16; n++) Check.due("passes of " + n + " with a slip", x.passes(n, 1), want[n - 1]);
        // The small ones by the game itself; ChoirsTest plays all of them.
        for (int n = 1; n <= 4; n++) {
            Check.holds("so many can tell", canTell(n, 0, 1, want[n - 1]));
            Check.holds("fewer can not", want[n - 1] == 0 || !canTell(n, 0, 1, want[n - 1] - 1));
        }
    }

    @Says("Part 4: TWO growl (no slips): PASSES at least: the least p for which 2 to the p is no less than there are pairs.")
    static void t4_pairsFromTwoTo16() {
        SungSteps x = new SungSteps();
        // Pairs: 1, 3, 6, 10, 15, 21, 28, 36, 45, 55, 66, 78, 91, 105, 120.
        int[] want = {0, 2, 3, 4, 4, 5, 5, 6, 6, 6, 7, 7, 7, 7, 7};
        for (int n = 2; n <= 16; n++) Check.due("pairs of " + n, x.pairs(n), want[n - 2]);
    }

    // ---- part 4: crowds

    private static void ends(int mean, int turns, int... homes) {
        SungSteps x = new SungSteps();
        for (int home : homes) x.join(home);
        for (int again = 0; again < 2; again++) {
            Check.due("the mean at the end", x.ends(0), mean);
            Check.due("turns till then", x.ends(1), turns);
        }
    }

    @Says("Part 4: A CROWD: HOMES as told (8 at most, -1200 .. 1200):")
    static void t4_aCrowdOfEightAtMost() {
        SungSteps x = new SungSteps();
        int[] homes = {-1200, 1200, 0, -1, 1, 1199, -1199, 600};
        for (int k = 0; k < 8; k++) Check.due("join", x.join(homes[k]), k + 1);
        Check.due("a ninth", x.join(0), FULL);
        Check.due("eight", x.told(6), 8);
        x = new SungSteps();
        Check.due("1201", x.join(1201), OUTSIDE);
        Check.due("-1201", x.join(-1201), OUTSIDE);
        Check.due("nobody", x.told(6), 0);
        ends(-1200, 0, -1200);
        ends(1200, 0, 1200, 1200, 1200, 1200, 1200, 1200, 1200, 1200);
    }

    @Says("Part 4: a TURN: each goes half of the way to the MEAN (sum / how many), cut, all at once;")
    static void t4_aTurnIsCut() {
        // A half of one is 0: who is one off stays.
        ends(2, 0, 2, 3);
        ends(-2, 0, -2, -3);
        ends(0, 0, -1, 1, 0);
        ends(0, 0, 1, 0);
        ends(0, 0, -1, 0);
        // Two off moves by one; three off too.
        ends(0, 1, -2, 2, 0);
        ends(0, 2, -3, 3, 0);
        // At once: the mean is that of all ahead of the turn. Mean 4: 0 to 2, 9 to 7; mean 4: 3, 6; mean 4: 3, 5; mean 4: still.
        ends(4, 3, 0, 9);
        ends(-4, 3, 0, -9);
    }

    @Says("Part 4: ENDS: the MEAN as soon as a TURN changes nothing;")
    static void t4_endsWhenNothingChanges() {
        ends(7, 0, 7);
        ends(0, 0, 0);
        ends(5, 0, 5, 5, 5);
        // 0, 0, 100: means 33, 33, 32, 32, 32, 32, 32, 31, 31.
        ends(31, 8, 0, 0, 100);
        ends(-31, 8, 0, 0, -100);
        ends(-1, 1, -1, -1, -1, -1, -1, -1, -1, -3);
    }

    @Says("Part 4: TURNS ahead of that one (HOMES stay as told).")
    static void t4_turnsAheadAndHomesStay() {
        // 1200 apart from the mean: 600, 300, 150, 75, 38, 19, 10, 5, 3, 2, 1: eleven turns.
        ends(0, 11, -1200, 1200);
        ends(0, 11, -1200, 1200, -1200, 1200, -1200, 1200, -1200, 1200);
        SungSteps x = new SungSteps();
        x.join(-1200);
        x.join(1200);
        x.ends(0);
        Check.due("one more joins those as told", x.join(0), 3);
        Check.due("turns", x.ends(1), 11);
        Check.due("the crowd is asked, not moved", x.told(6), 3);
    }

    @Says("Part 4: ROUND of two (HOMES a, b): a TURN: each goes a third of the way to the other, cut, at once: where both are behind n TURNS (0 .. 99).")
    static void t4_roundsFrom0To99Turns() {
        SungSteps x = new SungSteps();
        int[][] rows = {{0, 900, 0, 0, 900}, {0, 900, 1, 300, 600}, {0, 900, 2, 400, 500}, {0, 900, 99, 449, 451},
            {-1200, 1200, 1, -400, 400}, {1200, -1200, 99, 1, -1}, {0, 2, 99, 0, 2}, {2, 0, 99, 2, 0}, {0, 3, 1, 1, 2},
            {0, 5, 1, 1, 4}, {0, -5, 1, -1, -4}, {7, 7, 99, 7, 7}};
        for (int[] row : rows) {
            Check.due("round " + row[0] + " " + row[1] + " " + row[2], x.round(row[0], row[1], row[2], 0), row[3]);
            Check.due("round " + row[0] + " " + row[1] + " " + row[2], x.round(row[0], row[1], row[2], 1), row[4]);
        }
    }

    // ---- promises 28 to 33

    @Says("Promise 28: PASSES (n 1 .. 16, e 0, 1). OUTSIDE.")
    static void p28_passesAtTheirBounds() {
        SungSteps x = new SungSteps();
        Check.due("one alone", x.passes(1, 0), 0);
        Check.due("one alone, with a slip", x.passes(1, 1), 0);
        Check.due("sixteen", x.passes(16, 0), 4);
        Check.due("sixteen, with a slip", x.passes(16, 1), 7);
        for (int n : new int[] {0, -1, 17, LEAST, MOST}) for (int e = 0; e < 2; e++) Check.due("n " + n, x.passes(n, e), OUTSIDE);
        for (int e : new int[] {-1, 2, LEAST, MOST}) Check.due("e " + e, x.passes(16, e), OUTSIDE);
    }

    @Says("Promise 29: PASSES at least for TWO (n 2 .. 16). OUTSIDE.")
    static void p29_pairsAtTheirBounds() {
        SungSteps x = new SungSteps();
        Check.due("two", x.pairs(2), 0);
        Check.due("sixteen", x.pairs(16), 7);
        for (int n : new int[] {1, 0, -1, 17, LEAST, MOST}) Check.due("n " + n, x.pairs(n), OUTSIDE);
    }

    @Says("Promise 30: A HOME of THE CROWD (-1200 .. 1200): how many. OUTSIDE, FULL (8).")
    static void p30_joinAtItsBounds() {
        SungSteps x = new SungSteps();
        for (int home : new int[] {-1201, 1201, LEAST, MOST}) Check.due("home " + home, x.join(home), OUTSIDE);
        for (int k = 1; k <= 8; k++) Check.due("join", x.join(k % 2 == 0 ? 1200 : -1200), k);
        for (int k = 0; k < 3; k++) Check.due("full", x.join(k), FULL);
        Check.due("the ninth did not come", x.ends(0), 0);
        x.part();
        Check.due("room again", x.join(5), 1);
    }

    @Says("Promise 31: Nobody is in THE CROWD: how many were.")
    static void p31_partOfNoneAndEight() {
        SungSteps x = new SungSteps();
        Check.due("nobody was", x.part(), 0);
        x.join(1);
        Check.due("one was", x.part(), 1);
        for (int k = 0; k < 9; k++) x.join(k);
        Check.due("eight were", x.part(), 8);
        Check.due("nobody", x.told(6), 0);
        Check.due("nobody was", x.part(), 0);
    }

    @Says("Promise 32: THE CROWD: what = 0 ENDS, 1 TURNS. OUTSIDE, NOT: nobody is in it.")
    static void p32_endsAtTheirBounds() {
        SungSteps x = new SungSteps();
        for (int what = 0; what < 2; what++) Check.due("nobody", x.ends(what), NOT);
        for (int what : new int[] {-1, 2, LEAST, MOST}) Check.due("nobody, what " + what, x.ends(what), OUTSIDE);
        x.join(-4);
        x.join(4);
        Check.due("ends", x.ends(0), 0);
        Check.due("turns", x.ends(1), 2);
        for (int what : new int[] {-1, 2, LEAST, MOST}) Check.due("what " + what, x.ends(what), OUTSIDE);
        x.part();
        Check.due("nobody again", x.ends(0), NOT);
    }

    @Says("Promise 33: ROUND (a, b -1200 .. 1200): what = 0 the one, 1 the other. OUTSIDE.")
    static void p33_roundAtItsBounds() {
        SungSteps x = new SungSteps();
        Check.due("the one", x.round(-1200, 1200, 0, 0), -1200);
        Check.due("the other", x.round(-1200, 1200, 0, 1), 1200);
        for (int bad : new int[] {-1201, 1201, LEAST, MOST}) {
            Check.due("a " + bad, x.round(bad, 0, 0, 0), OUTSIDE);
            Check.due("b " + bad, x.round(0, bad, 0, 0), OUTSIDE);
        }
        for (int n : new int[] {-1, 100, LEAST, MOST}) Check.due("n " + n, x.round(0, 0, n, 0), OUTSIDE);
        for (int what : new int[] {-1, 2, LEAST, MOST}) Check.due("what " + what, x.round(0, 0, 0, what), OUTSIDE);
    }
}
