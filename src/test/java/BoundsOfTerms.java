import java.util.ArrayList;
import java.util.List;

/** The opening of the terms: whole numbers, sets, refusals and their order, and that what is refused changes nothing. */
final class BoundsOfTerms {
    private static final int NONE = SungSteps.NONE, UNKNOWN = SungSteps.UNKNOWN, OUTSIDE = SungSteps.OUTSIDE, NOT = SungSteps.NOT,
        FULL = SungSteps.FULL;
    private static final int LEAST = Integer.MIN_VALUE, MOST = Integer.MAX_VALUE;

    private static final String TUNE = "note 12;note 14;breath;note 16;note 11;";
    private static final String SINGERS = "singer plain 50 70 30 3 5 30 21;singer hushed 0 0 0 1 0 0 0;singer true 9 9 9 9 0 36 9;";
    private static final String TASKS = "task 5 10 20 ear;task 3 1 2 voice,memory;task 9 0 49;";

    private BoundsOfTerms() {
    }

    @Says("What it is: An object is used for at most 512 calls after it has been made; what later calls answer is free.")
    static void w_the512thCallStillAnswers() {
        SungSteps x = new SungSteps();
        x.feed(5, 0x6e6f7465_37L);
        x.feed(1, ';');
        x.tune();
        for (int call = 4; call <= 511; call++) Check.due("call " + call, x.note(0, 0), 700);
        Check.due("call 512", x.seed(1), 0);
        SungSteps y = Check.with("note 7;", "singer plain 0 50 9 40 0 36 20;", "");
        int calls = 1 + 5 + 2;
        for (; calls < 511; calls++) y.sing(0, 2);
        Check.holds("call 512 tells of a song", y.height(0) >= 691 && y.height(0) <= 709);
    }

    @Says("Terms: All numbers are whole; / cuts towards 0.")
    static void t_divisionCutsTowards0FromBelowToo() {
        SungSteps x = Check.with("note 12;", "singer plain 0 0 0 1 0 36 20;singer plain 0 99 0 1 0 36 20;", "");
        x.lesson(0, 1);
        Check.due("-50 less -50 / 3, which is -16", x.singer(0, 2), -34);
        x.lesson(1, 1);
        Check.due("49 less 16", x.singer(1, 2), 33);
        x.join(-1);
        x.join(-2);
        Check.due("a mean of -3 / 2 is -1", x.ends(0), -1);
        Check.due("a third of -2 is 0", x.round(2, 0, 9, 0), 2);
        Check.due("a third of -5 is -1", x.round(5, 0, 1, 0), 4);
    }

    @Says("Terms: What has a number has it from 0 on, as it comes.")
    static void t_numbersBeginAt0() {
        SungSteps x = Check.with(TUNE, SINGERS, TASKS);
        int[] counts = {4, 3, 3};
        for (int what = 0; what < 3; what++) Check.due("told " + what, x.told(what), counts[what]);
        Check.due("the first note", x.note(0, 0), 1200);
        Check.due("the last note", x.note(3, 0), 1100);
        Check.due("no note behind it", x.note(4, 0), UNKNOWN);
        Check.due("no note ahead of the first", x.note(-1, 0), UNKNOWN);
        Check.due("the first singer", x.singer(0, 0), 0);
        Check.due("the last singer", x.singer(2, 0), 1);
        Check.due("no singer behind it", x.singer(3, 0), UNKNOWN);
        Check.due("the first task", x.task(0, 0), 5);
        Check.due("the last task", x.task(2, 0), 9);
        Check.due("no task behind it", x.task(3, 0), UNKNOWN);
        Check.due("the first image", x.keep(0), 1);
        Check.due("the last image", x.keep(1), 1);
        Check.due("no image behind it", x.keep(2), UNKNOWN);
    }

    @Says("Terms: A SET is a whole number, bit k for k.")
    static void t_setsFromNoneToAll() {
        SungSteps x = Check.with("note 12;", "singer hushed 0 50 0 1 0 36 20;",
            "task 1 0 0;task 1 0 0 ear;task 1 0 0 range;task 1 0 0 ear,voice,memory,range;task 1 0 0;task 1 0 0;");
        int[] parts = {0, 1, 8, 15};
        for (int t = 0; t < 4; t++) Check.due("parts of " + t, x.task(t, 3), parts[t]);
        Check.due("none done", x.told(7), 0);
        x.result(5, true);
        Check.due("the sixth alone", x.told(7), 32);
        for (int t = 0; t < 5; t++) x.result(t, t == 0);
        Check.due("all six done", x.told(7), 63);
        Check.due("the first and the sixth passed", x.told(8), 33);
        x.sing(0, 2);
        Check.due("all four scores", x.calls(), 15);
        Check.due("type 0 alone", x.alike(0), 1);
        x.tasks();
        Check.due("all sixteen types", x.alike(15), 65535);
    }

    @Says("Terms: NONE is -1.")
    @Says("Terms: They are far below all that is counted: -1000000001 and on.")
    static void t_theRefusalsAreNumbers() {
        Check.due("NONE", NONE, -1);
        Check.due("UNKNOWN", UNKNOWN, -1000000001);
        Check.due("OUTSIDE", OUTSIDE, -1000000002);
        Check.due("NOT", NOT, -1000000003);
        Check.due("FULL", FULL, -1000000004);
    }

    @Says("Terms: UNKNOWN (a NOTE, SINGER, TASK, PART, KIND, IMAGE that there is not; bits of such)")
    static void t_unknownIsWhatThereIsNot() {
        SungSteps x = Check.with(TUNE, SINGERS, TASKS);
        x.sing(0, 2);
        for (int bad : new int[] {-1, 4, LEAST, MOST}) {
            Check.due("note " + bad, x.note(bad, 0), UNKNOWN);
            Check.due("height " + bad, x.height(bad), UNKNOWN);
            Check.due("lesson in part " + bad, x.lesson(0, bad), UNKNOWN);
            Check.due("result " + bad, x.result(bad, true), UNKNOWN);
            Check.due("sing " + bad, x.sing(bad, 0), UNKNOWN);
            Check.due("keep " + bad, x.keep(bad), UNKNOWN);
        }
    }

    @Says("Terms: REFUSALS, of several the first in this order: UNKNOWN")
    static void t_unknownIsAheadOfOutside() {
        SungSteps x = Check.with(TUNE, SINGERS, TASKS);
        Check.due("note", x.note(4, 2), UNKNOWN);
        Check.due("singer", x.singer(3, 8), UNKNOWN);
        Check.due("task", x.task(3, 4), UNKNOWN);
        Check.due("sing", x.sing(3, 3), UNKNOWN);
        Check.due("weigh", x.weigh(16, 100), UNKNOWN);
        Check.due("plan, n", x.plan(3, 5, 0), UNKNOWN);
        Check.due("plan, week", x.plan(-1, 1, 2), UNKNOWN);
    }

    @Says("Terms: UNKNOWN (a NOTE, SINGER, TASK, PART, KIND, IMAGE that there is not; bits of such), OUTSIDE (another number out of its bounds), NOT")
    static void t_unknownAndOutsideAreAheadOfNot() {
        SungSteps x = Check.with(TUNE, SINGERS, TASKS);
        Check.due("height, no song", x.height(4), UNKNOWN);
        Check.due("goBack, none kept", x.goBack(2), UNKNOWN);
        Check.due("score, no song", x.score(4), OUTSIDE);
        Check.due("ends, nobody", x.ends(2), OUTSIDE);
        for (int t = 0; t < 3; t++) x.result(t, true);
        Check.due("result, all are done", x.result(3, true), UNKNOWN);
    }

    @Says("Terms: OUTSIDE (another number out of its bounds), NOT (not now, as told), FULL.")
    static void t_outsideIsAheadOfFull() {
        SungSteps x = new SungSteps();
        Check.feed(x, " ".repeat(400));
        for (int k = 0; k < 40; k++) x.write(0);
        for (int k = 0; k < 8; k++) x.join(0);
        Check.due("feed", x.feed(9, 0), OUTSIDE);
        Check.due("feed nothing", x.feed(0, 0), OUTSIDE);
        Check.due("write", x.write(10000), OUTSIDE);
        Check.due("join", x.join(1201), OUTSIDE);
        Check.due("feed one", x.feed(1, 0), FULL);
        Check.due("write one", x.write(0), FULL);
        Check.due("join one", x.join(0), FULL);
    }

    @Says("Terms: A STEP has 100 CENTS; heights are CENTS above the lowest tone.")
    static void t_heightsFromTheLowestTone() {
        SungSteps x = Check.with("note 0;note 1;note 36;", "singer true 0 50 0 40 0 36 20;", "");
        x.sing(0, 2);
        Check.due("the lowest tone", x.height(0), 0);
        Check.due("a step above", x.height(1), 100);
        Check.due("the highest", x.height(2), 3600);
    }

    // ---- what is refused changes nothing: an object with the refused call is held against one without it

    private interface Call {
        long on(SungSteps x);
    }

    private interface Maker {
        SungSteps make();
    }

    private static SungSteps busy() {
        SungSteps x = Check.with(TUNE, SINGERS, TASKS);
        Check.tune(x, "note 37;");
        x.seed(8);
        x.weigh(3, 7);
        x.result(1, true);
        x.lesson(0, 2);
        x.sing(2, 0);
        x.keep(0);
        x.weigh(4, 0);
        x.result(0, false);
        x.lesson(0, 1);
        x.sing(0, 0);
        x.write(x.height(0));
        x.write(0);
        x.join(900);
        x.join(-3);
        Check.feed(x, "note 5;not");
        return x;
    }

    private static SungSteps brimming() {
        SungSteps x = busy();
        x.keep(1);
        x.result(2, true);
        Check.feed(x, " ".repeat(390));
        for (int k = 2; k < 40; k++) x.write(k);
        for (int k = 2; k < 8; k++) x.join(k);
        return x;
    }

    private static void tellState(SungSteps x, List<Long> row) {
        for (int what = 0; what < 9; what++) row.add((long) x.told(what));
        for (int k = 0; k < 4; k++) row.add((long) x.height(k));
        for (int s = 0; s < 3; s++) for (int what = 0; what < 8; what++) row.add((long) x.singer(s, what));
        for (int type = -1; type < 16; type++) row.add(x.odds(type));
        for (int which = 0; which < 4; which++) row.add((long) x.score(which));
        row.add((long) x.judge());
        int seed = x.seed(0);
        x.seed(seed);
        row.add((long) seed);
    }

    /** All that can be asked; asked last of an object, since it goes back and reads the text. */
    private static List<Long> all(SungSteps x) {
        List<Long> row = new ArrayList<>();
        row.add((long) x.fault());
        tellState(x, row);
        for (int k = 0; k < 4; k++) for (int what = 0; what < 2; what++) row.add((long) x.note(k, what));
        for (int t = 0; t < 3; t++) for (int what = 0; what < 4; what++) row.add((long) x.task(t, what));
        for (int what = 0; what < 2; what++) row.add((long) x.ends(what));
        for (int i = 0; i < 2; i++) {
            row.add((long) x.goBack(i));
            tellState(x, row);
        }
        row.add((long) x.tear());
        row.add((long) x.part());
        row.add((long) x.forget());
        row.add((long) x.tune());
        row.add((long) x.fault());
        return row;
    }

    private static void refused(String what, Maker maker, long refusal, Call... calls) {
        List<Long> due = all(maker.make());
        for (int k = 0; k < calls.length; k++) {
            SungSteps x = maker.make();
            Check.due(what + ", call " + k, calls[k].on(x), refusal);
            Check.holds(what + ", call " + k + " changes nothing", all(x).equals(due));
        }
    }

    @Says("Terms: What is refused changes nothing.")
    static void t_theUnknownChangesNothing() {
        refused("unknown", BoundsOfTerms::busy, UNKNOWN, x -> x.note(4, 0), x -> x.singer(3, 0), x -> x.task(3, 0), x -> x.sing(3, 0),
            x -> x.sing(-1, 0), x -> x.height(4), x -> x.weigh(16, 5), x -> x.weigh(-1, 5), x -> x.result(3, true), x -> x.result(-1, true),
            x -> x.odds(16), x -> x.odds(-2), x -> x.alike(16), x -> x.lesson(3, 0), x -> x.lesson(-1, 0), x -> x.lesson(0, 4),
            x -> x.lesson(0, -1), x -> x.plan(3, 1, 0), x -> x.age(3), x -> x.keep(2), x -> x.keep(-1), x -> x.goBack(2), x -> x.goBack(-1));
        refused("unknown of a new one", SungSteps::new, UNKNOWN, x -> x.note(0, 0), x -> x.singer(0, 0), x -> x.task(0, 0),
            x -> x.sing(0, 0), x -> x.height(0), x -> x.result(0, true), x -> x.lesson(0, 0), x -> x.plan(0, 1, 0), x -> x.age(0));
    }

    @Says("Terms: What is refused changes nothing.")
    static void t_whatIsOutsideChangesNothing() {
        refused("outside", BoundsOfTerms::busy, OUTSIDE, x -> x.feed(0, 0), x -> x.feed(9, 0), x -> x.feed(-1, 0), x -> x.told(9),
            x -> x.note(0, 2), x -> x.singer(0, 8), x -> x.task(0, 4), x -> x.sing(0, 3), x -> x.sing(0, -1), x -> x.score(4),
            x -> x.fooled(2), x -> x.weigh(0, 100), x -> x.weigh(0, -1), x -> x.left(0), x -> x.left(101), x -> x.plan(0, 0, 0),
            x -> x.plan(0, 5, 0), x -> x.plan(0, 2, 3), x -> x.key(2), x -> x.passes(0, 0), x -> x.passes(17, 0), x -> x.passes(1, 2),
            x -> x.pairs(1), x -> x.pairs(17), x -> x.join(1201), x -> x.join(-1201), x -> x.ends(2), x -> x.round(1201, 0, 0, 0),
            x -> x.round(0, 0, 100, 0), x -> x.write(10000), x -> x.write(-1), x -> x.seed(-1), x -> x.seed(LEAST));
    }

    @Says("Terms: What is refused changes nothing.")
    static void t_whatIsNotNowChangesNothing() {
        refused("not now", BoundsOfTerms::busy, NOT, x -> x.result(0, true), x -> x.result(1, false), x -> x.goBack(1));
        refused("not now of a new one", SungSteps::new, NOT, x -> x.slid(), x -> x.score(0), x -> x.calls(), x -> x.judge(),
            x -> x.ends(0), x -> x.goBack(0));
    }

    @Says("Terms: What is refused changes nothing.")
    static void t_whatIsFullStaysAsItIs() {
        refused("full", BoundsOfTerms::brimming, FULL, x -> x.feed(1, 'x'), x -> x.feed(8, -1L), x -> x.write(9999), x -> x.join(1200));
    }
}
