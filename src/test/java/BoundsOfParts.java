/** Part 3 of the terms as far as types and tasks go, and promises 17 to 23: weights, results, odds, next, left, alike. */
final class BoundsOfParts {
    private static final int NONE = SungSteps.NONE, UNKNOWN = SungSteps.UNKNOWN, OUTSIDE = SungSteps.OUTSIDE, NOT = SungSteps.NOT;
    private static final int LEAST = Integer.MIN_VALUE, MOST = Integer.MAX_VALUE;
    private static final String ONE_EACH = "task 5 0 0 ear;task 3 0 0 voice;task 7 0 0 memory;task 11 0 0 range;";

    private BoundsOfParts() {
    }

    private static SungSteps with(String tasks) {
        return Check.with("", "", tasks);
    }

    /** Weights of the types from 0 on; those that are not told have 0. */
    private static void weigh(SungSteps x, int... weights) {
        for (int type = 0; type < 16; type++) x.weigh(type, type < weights.length ? weights[type] : 0);
    }

    // ---- part 3: weights, results, odds

    @Says("Part 3: TYPES 0 .. 15: which PARTS one lacks (a SET).")
    static void t3_typesFromNoneLackingToAll() {
        SungSteps x = with(ONE_EACH);
        for (int t = 0; t < 4; t++) x.result(t, false);
        for (int type = 0; type < 15; type++) Check.due("a part is not lacking", x.odds(type), 0);
        Check.due("type 15 lacks all", x.odds(15), 100000000);
        x.forget();
        for (int t = 0; t < 4; t++) x.result(t, true);
        Check.due("type 0 lacks none", x.odds(0), 100000000);
        for (int type = 1; type < 16; type++) Check.due("a part is lacking", x.odds(type), 0);
        Check.due("no type 16", x.odds(16), UNKNOWN);
    }

    @Says("Part 3: WEIGHTS of them: told, 0 .. 99 (1 each at first).")
    static void t3_weightsFrom0To99() {
        SungSteps x = new SungSteps();
        for (int type = 0; type < 16; type++) {
            Check.due("1 at first", x.weigh(type, 99), 1);
            Check.due("99", x.weigh(type, 0), 99);
            Check.due("0", x.weigh(type, 2), 0);
            Check.due("100", x.weigh(type, 100), OUTSIDE);
            Check.due("-1", x.weigh(type, -1), OUTSIDE);
            Check.due("as it was", x.odds(type), 2);
        }
    }

    @Says("Part 3: RESULTS of TASKS: passed, failed, not done.")
    static void t3_resultsFromNoneToAll() {
        SungSteps x = with("task 1 10 30 ear;".repeat(6));
        Check.due("none done", x.odds(0), 1);
        x.result(0, true);
        Check.due("passed", x.odds(0), 90);
        x.result(5, false);
        Check.due("passed and failed", x.odds(0), 900);
        Check.due("done", x.told(7), 33);
        Check.due("passed", x.told(8), 1);
    }

    @Says("Part 3: ODDS of a TYPE: its WEIGHT times, for each TASK that was done, of a hundred (P, Q, or what is left of a hundred): a whole number; of all such.")
    static void t3_oddsOfFourWays() {
        SungSteps x = with("task 1 10 30 ear;task 1 0 49 voice;task 1 49 0;");
        weigh(x, 7, 5);
        x.result(0, true);
        Check.due("has it, passed", x.odds(0), 7 * 90);
        Check.due("lacks it, passed", x.odds(1), 5 * 30);
        Check.due("all", x.odds(NONE), 7 * 90 + 5 * 30);
        x.forget();
        x.result(0, false);
        Check.due("has it, failed", x.odds(0), 7 * 10);
        Check.due("lacks it, failed", x.odds(1), 5 * 70);
        x.result(2, false);
        Check.due("a task without parts: all have all of them", x.odds(1), 5 * 70 * 49);
        x.result(1, false);
        Check.due("who never fails has failed", x.odds(0), 0);
        Check.due("nobody is left", x.odds(NONE), 0);
    }

    @Says("Part 3: ODDS of a TYPE: its WEIGHT times")
    static void t3_oddsAtTheirLeastAndMost() {
        SungSteps x = with("");
        weigh(x);
        for (int type = -1; type < 16; type++) Check.due("all weights 0", x.odds(type), 0);
        x = with("task 1 0 0;".repeat(6));
        for (int type = 0; type < 16; type++) x.weigh(type, 99);
        Check.due("none done", x.odds(NONE), 1584);
        for (int t = 0; t < 6; t++) x.result(t, true);
        Check.due("99 times 100 to the 6", x.odds(15), 99000000000000L);
        Check.due("sixteen of them", x.odds(NONE), 1584000000000000L);
    }

    // ---- part 3: next

    @Says("Part 3: NEXT: the TASK not done for which the greatest ODDS, summed over its two RESULTS, are most (sum over passed, failed of the greatest ODDS of a TYPE with it);")
    static void t3_nextByTheGreatestOdds() {
        SungSteps x = with("task 1 49 49 ear;task 9 0 0 ear;task 1 48 49 ear;");
        Check.due("200 is most", x.next(), 1);
        x.result(1, true);
        // Only who has the ear is left: 51 + 49, 52 + 48 are like, the first of like minutes.
        Check.due("100 each", x.next(), 0);
        x.forget();
        x.weigh(0, 0);
        Check.due("others have it too", x.next(), 1);
        x = with("task 1 0 0 ear;task 1 0 0 voice;");
        weigh(x, 9, 7, 8);
        Check.due("9 and 7 by ear, 9 and 8 by voice", x.next(), 1);
        weigh(x, 9, 8, 7);
        Check.due("9 and 8 by ear", x.next(), 0);
        // One above: a hundred times 50 + 49 against 50 + 50.
        x = with("task 1 1 0 ear;task 30 0 0 ear;");
        Check.due("199 against 200", x.next(), 1);
        // With type 0 alone a result that cannot be counts 0: 100 + 0 and 51 + 49 are like.
        x = with("task 5 0 0 ear;task 4 49 49 ear;task 3 0 0 voice;");
        weigh(x, 1);
        Check.due("100 each, fewest minutes", x.next(), 2);
        x = with("task 5 0 0 ear;task 4 49 49 ear;");
        weigh(x, 1);
        Check.due("100 each, fewest minutes", x.next(), 1);
    }

    @Says("Part 3: of like ones that with fewest MINUTES, then the least; NONE.")
    static void t3_nextOfLikeOnesAndOfNone() {
        SungSteps x = with("task 9 0 0 ear;task 8 0 0 ear;task 8 0 0 voice;task 30 0 0 range;");
        Check.due("fewest minutes, then the least", x.next(), 1);
        x.result(1, true);
        Check.due("the other of 8", x.next(), 2);
        x.result(2, true);
        // Who has the ear is left: the ear's task parts none any more.
        Check.due("the range parts", x.next(), 3);
        x.result(3, true);
        Check.due("what is left", x.next(), 0);
        x.result(0, true);
        Check.due("all are done", x.next(), NONE);
        Check.due("there are none", with("").next(), NONE);
        x = with("task 3 0 0 ear;task 2 49 49;task 2 0 0 voice;");
        weigh(x);
        Check.due("all odds are 0: all are like", x.next(), 1);
    }

    // ---- part 3: left

    @Says("Part 3: LEFT: MINUTES in the worst case till KNOWN (ODDS of one TYPE times 100 are q or more times those of all TYPES,")
    static void t3_knownAtJustQ() {
        SungSteps x = with("");
        weigh(x, 3, 1);
        Check.due("75 of a hundred", x.left(75), 0);
        Check.due("76 are too many", x.left(76), NONE);
        weigh(x, 99, 1);
        Check.due("99 of a hundred", x.left(99), 0);
        Check.due("100 are too many", x.left(100), NONE);
        weigh(x, 0, 1);
        Check.due("one alone", x.left(100), 0);
        weigh(x, 1, 1, 1);
        Check.due("a third is 33", x.left(33), 0);
        Check.due("a third is not 34", x.left(34), NONE);
    }

    @Says("Part 3: or all are 0),")
    static void t3_knownIfAllAre0() {
        SungSteps x = with("task 5 0 0 ear;");
        weigh(x);
        Check.due("all weights 0", x.left(100), 0);
        weigh(x, 1, 0, 1);
        Check.due("two who pass alike", x.left(100), NONE);
        x.result(0, false);
        Check.due("none is left who could fail", x.odds(NONE), 0);
        Check.due("then it is known", x.left(100), 0);
    }

    @Says("Part 3: the TASKS that are left chosen as best, one behind the other by RESULTS: the fewest;")
    static void t3_leftByTheFewestMinutes() {
        SungSteps x = with(ONE_EACH);
        Check.due("all four", x.left(100), 26);
        Check.due("one of two", x.left(50), 15);
        Check.due("one of four: the two cheapest", x.left(25), 8);
        x.result(3, true);
        Check.due("those that are left", x.left(100), 15);
        // Who passes: 3 times 100 against 49, which is 85 of a hundred; who fails lacks it.
        x = with("task 1 0 49 ear;");
        weigh(x, 3, 1);
        Check.due("85 of a hundred", x.left(85), 1);
        Check.due("not 86", x.left(86), NONE);
        // Who fails: 49 against 3 times 100.
        x = with("task 1 49 0 ear;");
        weigh(x, 1, 3);
        Check.due("85 of a hundred", x.left(85), 1);
        Check.due("not 86", x.left(86), NONE);
        // Types 0, 1, 2: who fails the ear is known; who passes needs the voice.
        x = with("task 5 0 0 ear;task 3 0 0 voice;task 30 0 0 ear,voice;");
        weigh(x, 1, 1, 1);
        Check.due("by results: both at worst", x.left(100), 8);
        weigh(x, 1, 1);
        Check.due("the ear alone", x.left(100), 5);
        weigh(x, 1, 0, 1);
        Check.due("the voice alone", x.left(100), 3);
        // Who fails the cheap task needs the dear one, who passes a middle one: the worst case counts.
        x = with("task 1 0 0 ear;task 30 0 0 voice;task 4 0 0 memory;");
        weigh(x, 1, 1, 0, 1, 1);
        Check.due("1 and 30", x.left(100), 31);
        x.result(0, true);
        Check.due("then 4", x.left(100), 4);
    }

    @Says("Part 3: NONE: it may never be.")
    static void t3_leftMayNeverBe() {
        Check.due("no tasks", with("").left(100), NONE);
        SungSteps x = with("task 5 0 0 ear;task 3 0 0 voice;");
        Check.due("two tasks of four parts", x.left(100), NONE);
        x = with("task 1 1 0 ear;");
        weigh(x, 1, 1);
        Check.due("a slip leaves a doubt", x.left(100), NONE);
        Check.due("a small one", x.left(99), 1);
        x = with("task 1 0 0 ear;");
        weigh(x, 1, 1, 0, 1);
        Check.due("passed it is known, failed it never is", x.left(100), NONE);
        weigh(x, 1, 1, 1);
        Check.due("failed it is known, passed it never is", x.left(100), NONE);
        x.result(0, false);
        Check.due("as it was failed", x.left(100), 0);
    }

    // ---- part 3: alike

    @Says("Part 3: ALIKE: TYPES (a SET of 16) that no TASK parts from a TYPE (each TASK needs a PART that both lack some of, or of both none).")
    static void t3_alikeFromItselfToAll() {
        SungSteps x = with("");
        Check.due("without tasks all", x.alike(0), 65535);
        Check.due("without tasks all", x.alike(15), 65535);
        x = with("task 1 0 0;task 1 49 49;");
        Check.due("tasks without parts part none", x.alike(9), 65535);
        x = with(ONE_EACH);
        for (int type = 0; type < 16; type++) Check.due("itself alone", x.alike(type), 1 << type);
        x = with("task 1 0 0 ear,voice,memory,range;");
        Check.due("0 from all others", x.alike(0), 1);
        Check.due("all others", x.alike(8), 65534);
        x = with("task 1 49 49 ear;");
        Check.due("who has it", x.alike(0), 0x5555);
        Check.due("who lacks it", x.alike(1), 0xaaaa);
        x = with("task 1 0 0 ear,voice;task 1 0 0 voice;");
        Check.due("lacks the voice: the ear is hidden", x.alike(2), 0xcccc);
        Check.due("lacks the ear alone of both", x.alike(1), 0x2222);
    }

    // ---- promises 17 to 23

    @Says("Promise 17: The WEIGHT of a TYPE (0 .. 15) becomes v (0 .. 99): what it was. UNKNOWN, OUTSIDE.")
    static void p17_weighAtItsBounds() {
        SungSteps x = new SungSteps();
        Check.due("type 0", x.weigh(0, 0), 1);
        Check.due("type 15", x.weigh(15, 99), 1);
        for (int type : new int[] {-1, 16, LEAST, MOST}) Check.due("type " + type, x.weigh(type, 5), UNKNOWN);
        for (int v : new int[] {-1, 100, LEAST, MOST}) Check.due("weight " + v, x.weigh(15, v), OUTSIDE);
        Check.due("was 0", x.weigh(0, 1), 0);
        Check.due("was 99", x.weigh(15, 1), 99);
        Check.due("the others are as they were", x.odds(NONE), 16);
    }

    @Says("Promise 18: A TASK is passed, failed: how many are done. UNKNOWN, NOT: it is done.")
    static void p18_resultAtItsBounds() {
        SungSteps x = with("task 1 0 0;".repeat(6));
        for (int t = 5; t >= 0; t--) Check.due("result", x.result(t, t % 2 == 0), 6 - t);
        for (int t = 0; t < 6; t++) {
            Check.due("done", x.result(t, true), NOT);
            Check.due("done", x.result(t, false), NOT);
        }
        Check.due("passed as it was", x.told(8), 21);
        for (int t : new int[] {-1, 6, 32, LEAST, MOST}) Check.due("task " + t, x.result(t, true), UNKNOWN);
        Check.due("no tasks", with("").result(0, true), UNKNOWN);
    }

    @Says("Promise 19: No RESULTS: how many there were.")
    static void p19_forgetNoneAndAll() {
        SungSteps x = with("task 1 0 0;".repeat(6));
        Check.due("none", x.forget(), 0);
        for (int t = 0; t < 6; t++) x.result(t, t > 2);
        Check.due("six", x.forget(), 6);
        Check.due("none done", x.told(7), 0);
        Check.due("none passed", x.told(8), 0);
        Check.due("none again", x.forget(), 0);
        Check.due("it may be done again", x.result(5, false), 1);
        Check.due("and is not passed", x.told(8), 0);
    }

    @Says("Promise 20: ODDS of a TYPE; type NONE: of all. UNKNOWN.")
    static void p20_oddsAtTheirBounds() {
        SungSteps x = new SungSteps();
        x.weigh(0, 3);
        x.weigh(15, 4);
        Check.due("type 0", x.odds(0), 3);
        Check.due("type 15", x.odds(15), 4);
        Check.due("type NONE", x.odds(NONE), 3 + 14 + 4);
        for (int type : new int[] {-2, 16, LEAST, MOST}) Check.due("type " + type, x.odds(type), UNKNOWN);
    }

    @Says("Promise 21: NEXT; NONE.")
    static void p21_nextOfOneAndNone() {
        SungSteps x = with("task 30 49 49;");
        Check.due("the only one", x.next(), 0);
        Check.due("asking does it not", x.told(7), 0);
        x.result(0, false);
        Check.due("it is done", x.next(), NONE);
        x.forget();
        Check.due("it is not", x.next(), 0);
        x.tasks();
        Check.due("there is none", x.next(), NONE);
    }

    @Says("Promise 22: LEFT for q (1 .. 100); NONE. OUTSIDE.")
    static void p22_leftAtItsBounds() {
        SungSteps x = with(ONE_EACH);
        Check.due("q 1", x.left(1), 0);
        Check.due("q 100", x.left(100), 26);
        for (int q : new int[] {0, -1, 101, LEAST, MOST}) Check.due("q " + q, x.left(q), OUTSIDE);
        Check.due("asking does none", x.told(7), 0);
        for (int t = 0; t < 4; t++) x.result(t, true);
        Check.due("all are done, it is known", x.left(100), 0);
        x = with("task 30 0 0 ear;".repeat(6));
        Check.due("six that tell the same", x.left(100), NONE);
        weigh(x, 1, 1);
        Check.due("one of them", x.left(100), 30);
        for (int t = 0; t < 6; t++) x.result(t, true);
        weigh(x, 1, 0, 1);
        Check.due("all are done, it is not known", x.left(100), NONE);
    }

    @Says("Promise 22: LEFT for q (1 .. 100)")
    static void p22_leftWithAllSixTasks() {
        // Each task is passed by that one type alone which lacks the two other parts; who lacks all fails each.
        SungSteps x = with("task 30 0 0 ear,voice;task 29 0 0 ear,memory;task 28 0 0 voice,memory;task 27 0 0 ear,range;"
            + "task 26 0 0 voice,range;task 25 0 0 memory,range;");
        weigh(x, 0, 0, 0, 1, 0, 1, 1, 0, 0, 1, 1, 0, 1, 0, 0, 1);
        Check.due("seven types: all six at worst", x.left(100), 165);
        x.weigh(15, 0);
        Check.due("six types: the dearest is spared", x.left(100), 135);
        Check.due("one of six", x.left(16), 0);
        Check.due("one of five: the cheapest", x.left(17), 25);
    }

    @Says("Promise 23: ALIKE to a TYPE. UNKNOWN.")
    static void p23_alikeAtItsBounds() {
        SungSteps x = with("task 1 0 0 range;");
        Check.due("type 0", x.alike(0), 0x00ff);
        Check.due("type 15", x.alike(15), 0xff00);
        for (int type : new int[] {-1, 16, LEAST, MOST}) Check.due("type " + type, x.alike(type), UNKNOWN);
    }
}
