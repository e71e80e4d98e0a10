/** Part 4 of the terms as far as books and images go, and promises 34 to 39. */
final class BoundsOfBooks {
    private static final int NONE = SungSteps.NONE, UNKNOWN = SungSteps.UNKNOWN, OUTSIDE = SungSteps.OUTSIDE, NOT = SungSteps.NOT,
        FULL = SungSteps.FULL;
    private static final int LEAST = Integer.MIN_VALUE, MOST = Integer.MAX_VALUE;

    private static final String TUNE = "note 0;note 14;note 36;";
    private static final String SINGERS = "singer true 0 50 0 40 0 36 20;singer hushed 0 50 0 40 0 36 20;singer plain 40 70 30 3 5 30 20;";
    private static final String TASKS = "task 5 10 20 ear;task 3 1 2 voice;";

    private BoundsOfBooks() {
    }

    private static SungSteps full() {
        return Check.with(TUNE, SINGERS, TASKS);
    }

    private static int judged(int singer, int... heights) {
        SungSteps x = full();
        x.sing(singer, 2);
        for (int height : heights) x.write(height);
        return x.judge();
    }

    // ---- part 4: the book

    @Says("Part 4: THE BOOK tells heights of THE SONG (40 at most; 0 .. 9999):")
    static void t4_aBookOfFortyHeights() {
        SungSteps x = Check.with("note 0;".repeat(40), "singer true 0 50 0 40 0 36 20;", "");
        x.sing(0, 2);
        for (int k = 1; k <= 40; k++) Check.due("write", x.write(k == 40 ? 9999 : 0), k);
        Check.due("a 41st", x.write(0), FULL);
        Check.due("the fortieth is looked at", x.judge(), 39);
        Check.due("10000", x.write(10000), OUTSIDE);
        Check.due("-1", x.write(-1), OUTSIDE);
        Check.due("forty", x.told(5), 40);
    }

    @Says("Part 4: WRONG: the first that is more than 50 off")
    static void t4_wrongBy51() {
        Check.due("none is off", judged(0, 0, 1400, 3600), NONE);
        Check.due("50 above", judged(0, 50, 1450, 3650), NONE);
        Check.due("50 below", judged(0, 0, 1350, 3550), NONE);
        Check.due("51 above, the first", judged(0, 51, 1400, 3600), 0);
        Check.due("51 above", judged(0, 0, 1451, 3600), 1);
        Check.due("51 below", judged(0, 0, 1349, 3600), 1);
        Check.due("51 above, the last", judged(0, 0, 1400, 3651), 2);
        Check.due("of two the first", judged(0, 0, 1500, 0), 1);
    }

    @Says("Part 4: (beyond THE SONG, where the height is NONE, too); NONE.")
    static void t4_wrongBeyondTheSongAndWhereNothingIsSung() {
        Check.due("as long as the song", judged(0, 0, 1400, 3600), NONE);
        Check.due("one beyond", judged(0, 0, 1400, 3600, 3600), 3);
        Check.due("0 beyond is not near to NONE", judged(0, 0, 1400, 3600, 0), 3);
        Check.due("hushed: 0 is not near to NONE", judged(1, 0), 0);
        Check.due("hushed: any", judged(1, 9999), 0);
        Check.due("hushed, an empty book", judged(1), NONE);
        Check.due("an empty book", judged(0), NONE);
        SungSteps x = Check.with("", SINGERS, "");
        x.sing(0, 2);
        Check.due("a song without notes, an empty book", x.judge(), NONE);
        x.write(0);
        Check.due("a song without notes", x.judge(), 0);
        x = Check.with("note 0;".repeat(40), SINGERS, "");
        x.sing(0, 2);
        for (int k = 0; k < 40; k++) x.write(0);
        Check.due("forty of forty", x.judge(), NONE);
        // Heights of a longer song are not found behind a shorter one.
        x = Check.with("note 5;note 5;note 5;", SINGERS, "");
        x.sing(0, 2);
        Check.tune(x, "note 5;");
        x.sing(0, 2);
        x.write(500);
        x.write(500);
        Check.due("beyond the shorter song", x.judge(), 1);
    }

    // ---- part 4: images

    @Says("Part 4: IMAGES 0, 1 keep THE SONG,")
    static void t4_imagesKeepTheSong() {
        SungSteps x = full();
        x.keep(0);
        x.sing(0, 2);
        x.keep(1);
        x.sing(1, 2);
        x.goBack(1);
        Check.due("by whom", x.told(4), 0);
        int[] heights = {0, 1400, 3600};
        for (int k = 0; k < 3; k++) Check.due("height " + k, x.height(k), heights[k]);
        x.goBack(0);
        Check.due("no song", x.told(4), NONE);
        Check.due("no song", x.height(0), NOT);
        Check.due("no song", x.slid(), NOT);
    }

    @Says("Part 4: RESULTS, WEIGHTS,")
    static void t4_imagesKeepResultsAndWeights() {
        SungSteps x = full();
        x.keep(0);
        x.result(0, true);
        x.result(1, false);
        for (int type = 0; type < 16; type++) x.weigh(type, 6 * type);
        x.keep(1);
        x.forget();
        for (int type = 0; type < 16; type++) x.weigh(type, 99);
        x.goBack(1);
        Check.due("done", x.told(7), 3);
        Check.due("passed", x.told(8), 1);
        for (int type = 0; type < 16; type++) Check.due("weight " + type, x.weigh(type, 1), 6 * type);
        x.goBack(0);
        Check.due("none done", x.told(7), 0);
        Check.due("none passed", x.told(8), 0);
        for (int type = 0; type < 16; type++) Check.due("weight " + type, x.weigh(type, 1), 1);
    }

    @Says("Part 4: what SINGERS have become, THE SEED.")
    static void t4_imagesKeepSingersAndTheSeed() {
        SungSteps x = Check.with(TUNE, "singer plain 99 99 99 1 12 12 40;".repeat(12), "");
        x.seed(2147483647);
        x.keep(0);
        for (int s = 0; s < 12; s++) for (int part = 0; part < 4; part++) x.lesson(s, part);
        x.seed(1);
        x.keep(1);
        for (int s = 0; s < 12; s++) for (int part = 0; part < 4; part++) x.lesson(s, part);
        x.seed(2);
        int[][] want = {{0, 99, 49, 99, 1, 12, 12, 20}, {0, 74, 33, 66, 3, 11, 13, 20}};
        int[] seeds = {2147483647, 1};
        for (int i = 1; i >= 0; i--) {
            x.goBack(i);
            for (int s = 0; s < 12; s++) {
                for (int what = 0; what < 8; what++) Check.due("singer " + s + ", " + what, x.singer(s, what), want[i][what]);
            }
            Check.due("the seed", x.seed(0), seeds[i]);
        }
        Check.due("twelve", x.told(1), 12);
    }

    @Says("Part 4: IMAGES 0, 1 keep THE SONG, RESULTS, WEIGHTS, what SINGERS have become, THE SEED.")
    static void t4_imagesKeepNothingElse() {
        SungSteps x = full();
        x.write(1);
        x.join(1);
        x.feed(1, 'n');
        x.keep(0);
        x.write(2);
        x.join(2);
        Check.tune(x, "x");
        x.feed(4, 0x6e6f7465);
        x.goBack(0);
        Check.due("the book", x.told(5), 2);
        Check.due("the crowd", x.told(6), 2);
        Check.due("the text", x.told(3), 4);
        Check.due("the fault", x.fault(), 0);
        x.tear();
        x.part();
        x.goBack(0);
        Check.due("the book stays torn", x.told(5), 0);
        Check.due("nobody comes back", x.told(6), 0);
    }

    // ---- promises 34 to 39

    @Says("Promise 34: A height behind THE BOOK: how many it has. OUTSIDE, FULL (40).")
    static void p34_writeAtItsBounds() {
        SungSteps x = new SungSteps();
        for (int height : new int[] {-1, 10000, LEAST, MOST}) Check.due("height " + height, x.write(height), OUTSIDE);
        Check.due("none", x.told(5), 0);
        for (int k = 1; k <= 40; k++) Check.due("write", x.write(k % 2 == 0 ? 0 : 9999), k);
        for (int k = 0; k < 3; k++) Check.due("full", x.write(k), FULL);
        for (int height : new int[] {-1, 10000}) Check.due("outside ahead of full", x.write(height), OUTSIDE);
        Check.due("forty", x.told(5), 40);
        x.tear();
        Check.due("room again", x.write(7), 1);
    }

    @Says("Promise 35: THE BOOK is empty: how many heights it had.")
    static void p35_tearNoneAndForty() {
        SungSteps x = full();
        Check.due("none", x.tear(), 0);
        for (int k = 0; k < 41; k++) x.write(9999);
        Check.due("forty", x.tear(), 40);
        Check.due("none again", x.tear(), 0);
        x.sing(0, 2);
        Check.due("nothing to judge", x.judge(), NONE);
        Check.due("the first again", x.write(0), 1);
        Check.due("right", x.judge(), NONE);
    }

    @Says("Promise 36: WRONG; NONE. NOT: no SONG.")
    static void p36_judgeAtItsBounds() {
        SungSteps x = full();
        Check.due("no song, an empty book", x.judge(), NOT);
        x.write(9999);
        Check.due("no song", x.judge(), NOT);
        x.sing(0, 2);
        Check.due("the first", x.judge(), 0);
        Check.due("the book stays", x.told(5), 1);
        x.tear();
        Check.due("none", x.judge(), NONE);
        x.singers();
        Check.due("no song again", x.judge(), NOT);
    }

    @Says("Promise 37: THE SEED becomes v (0 .. 2147483647): what it was. OUTSIDE.")
    static void p37_seedAtItsBounds() {
        SungSteps x = new SungSteps();
        Check.due("0 at first", x.seed(2147483647), 0);
        for (int v : new int[] {-1, LEAST}) Check.due("seed " + v, x.seed(v), OUTSIDE);
        Check.due("the greatest", x.seed(0), 2147483647);
        Check.due("the least", x.seed(1), 0);
        Check.due("one", x.seed(0), 1);
    }

    @Says("Promise 38: IMAGE i becomes what is so: 1. UNKNOWN.")
    static void p38_keepAtItsBounds() {
        SungSteps x = full();
        for (int i : new int[] {-1, 2, LEAST, MOST}) Check.due("keep " + i, x.keep(i), UNKNOWN);
        for (int i = 0; i < 2; i++) Check.due("none was kept", x.goBack(i), NOT);
        x.seed(3);
        Check.due("keep 0", x.keep(0), 1);
        x.seed(4);
        Check.due("keep 1", x.keep(1), 1);
        x.seed(5);
        Check.due("keep 0 again", x.keep(0), 1);
        x.goBack(1);
        Check.due("image 1", x.seed(0), 4);
        x.goBack(0);
        Check.due("image 0 is the later one", x.seed(0), 5);
        Check.due("a new one is kept too", new SungSteps().keep(1), 1);
    }

    @Says("Promise 39: What is so becomes IMAGE i: 1. UNKNOWN, NOT: it was not kept.")
    static void p39_goBackAtItsBounds() {
        SungSteps x = full();
        for (int i : new int[] {-1, 2, LEAST, MOST}) Check.due("goBack " + i, x.goBack(i), UNKNOWN);
        for (int i = 0; i < 2; i++) Check.due("not kept", x.goBack(i), NOT);
        x.keep(1);
        Check.due("the other was not kept", x.goBack(0), NOT);
        for (int k = 0; k < 3; k++) {
            x.lesson(2, 2);
            Check.due("go back, as often as one likes", x.goBack(1), 1);
            Check.due("as it was", x.singer(2, 4), 3);
        }
        x.tasks();
        Check.due("gone", x.goBack(1), NOT);
        x.keep(0);
        Check.due("kept anew", x.goBack(0), 1);
        Check.due("the other is still gone", x.goBack(1), NOT);
    }
}
