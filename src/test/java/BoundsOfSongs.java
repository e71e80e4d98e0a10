/** Part 2 of the terms and promises 11 to 16: draws, singing, kinds, scores, a hum. */
final class BoundsOfSongs {
    private static final int NONE = SungSteps.NONE, UNKNOWN = SungSteps.UNKNOWN, OUTSIDE = SungSteps.OUTSIDE, NOT = SungSteps.NOT;
    private static final int LEAST = Integer.MIN_VALUE, MOST = Integer.MAX_VALUE;
    private static final int NO_MODEL = 0, PIANO = 1, VOICE = 2;

    private BoundsOfSongs() {
    }

    private static SungSteps with(String tune, String singers) {
        return Check.with(tune, singers, "");
    }

    /** The seed behind so many draws. */
    private static long afterDraws(long seed, int n) {
        for (int k = 0; k < n; k++) seed = (seed * 1103515245L + 12345L) % 2147483648L;
        return seed;
    }

    /** The least seed whose first draw of n is so. */
    private static int seedFor(int n, int draw) {
        int seed = 0;
        while (afterDraws(seed, 1) / 65536 % n != draw) seed++;
        return seed;
    }

    private static void heights(SungSteps x, String what, int... want) {
        for (int k = 0; k < want.length; k++) Check.due(what + ", height " + k, x.height(k), want[k]);
    }

    /** What one sings with a voice. */
    private static void sings(String singer, String tune, int... want) {
        SungSteps x = with(tune, singer);
        x.sing(0, VOICE);
        heights(x, singer + " sings " + tune, want);
    }

    // ---- part 2: draws and singing

    @Says("Part 2: DUE of a NOTE: 100 times S.")
    static void t2_duesFrom0To3600() {
        SungSteps x = with("note 0;note 1;note 36;", "");
        int[] dues = {0, 100, 3600};
        for (int k = 0; k < 3; k++) Check.due("due " + k, x.note(k, 0), dues[k]);
    }

    @Says("Part 2: DRAWS: THE SEED (0 at first: each DRAW it becomes it times 1103515245 and 12345, left over by 2 to the 31;")
    static void t2_theSeedWrapsAt2ToThe31() {
        SungSteps x = with("note 12;", "singer plain 0 50 0 1 0 36 20;");
        x.sing(0, VOICE);
        Check.due("from 0", x.seed(1), 12345);
        x.sing(0, VOICE);
        Check.due("from 1", x.seed(2), 1103527590);
        x.sing(0, VOICE);
        Check.due("2207042835 is over by 59559187", x.seed(2147483647), 59559187);
        x.sing(0, VOICE);
        Check.due("the greatest is as one below 0", x.seed(0), 2147483648L - 1103515245 + 12345);
    }

    @Says("Part 2: the DRAW of n is it / 65536, left over by n).")
    static void t2_drawsFrom0ToOneBelowN() {
        SungSteps x = with("note 18;", "singer plain 0 50 1 1 0 36 20;");
        for (int draw = 0; draw < 3; draw++) {
            x.seed(seedFor(3, draw));
            x.sing(0, VOICE);
            Check.due("draw " + draw + " of 3", x.height(0), 1800 + draw - 1);
        }
        // From 0 the seed is 12345, / 65536 is 0; from 12345 it is 1406932606, / 65536 is 21468: of 3 it is 0, of 5 it is 3.
        x = with("note 18;", "singer plain 0 50 2 1 0 36 20;");
        x.sing(0, VOICE);
        Check.due("0 of 5", x.height(0), 1798);
        x.sing(0, VOICE);
        Check.due("3 of 5", x.height(0), 1801);
    }

    @Says("Part 2: TO SING a TUNE with a MODEL (0 none, 1 a piano, 2 a voice).")
    static void t2_modelsFrom0To2() {
        SungSteps x = with("note 18;", "singer true 0 50 0 1 0 36 20;");
        int[] draws = {1, 1, 0};
        for (int model = 0; model < 3; model++) {
            x.seed(77);
            Check.due("sing " + model, x.sing(0, model), 0);
            Check.due("draws with " + model, x.seed(0), afterDraws(77, draws[model]));
        }
        for (int model : new int[] {-1, 3, LEAST, MOST}) Check.due("model " + model, x.sing(0, model), OUTSIDE);
    }

    @Says("Part 2: FIRST NOTE: AIM is its DUE; without a MODEL a DRAW of 13, less 6, times 100 more;")
    static void t2_withoutAModelSixStepsOffAtMost() {
        SungSteps x = with("note 18;note 20;", "singer true 0 50 0 1 0 36 20;");
        for (int draw = 0; draw < 13; draw++) {
            x.seed(seedFor(13, draw));
            x.sing(0, NO_MODEL);
            heights(x, "draw " + draw, 1800 + 100 * (draw - 6), 2000 + 100 * (draw - 6));
        }
        x = with("note 2;", "singer true 0 50 0 1 0 36 20;");
        x.seed(seedFor(13, 0));
        x.sing(0, NO_MODEL);
        Check.due("below the lowest tone it is held", x.height(0), 0);
    }

    @Says("Part 2: with a piano a DRAW of 2, less 1, times 1200 more (an octave low, or right);")
    static void t2_withAPianoAnOctaveLowOrRight() {
        SungSteps x = with("note 18;note 20;", "singer true 0 50 0 1 0 36 20;");
        x.seed(seedFor(2, 0));
        x.sing(0, PIANO);
        heights(x, "low", 600, 800);
        x.seed(seedFor(2, 1));
        x.sing(0, PIANO);
        heights(x, "right", 1800, 2000);
    }

    @Says("Part 2: with a voice nothing more.")
    static void t2_withAVoiceJustSo() {
        SungSteps x = with("note 0;note 36;", "singer true 0 50 0 1 0 36 20;");
        x.seed(3);
        x.sing(0, VOICE);
        heights(x, "a voice", 0, 3600);
        Check.due("no draw", x.seed(0), 3);
    }

    @Says("Part 2: Each NOTE behind: AIM is the AIM ahead, what its DUE is more than that of the NOTE ahead, and DRIFT (0, if true).")
    static void t2_aimsBehindTheFirst() {
        String tune = "note 18;note 20;note 17;note 17;";
        sings("singer plain 0 50 0 40 0 36 0;", tune, 1800, 1980, 1660, 1640);
        sings("singer plain 0 50 0 40 0 36 20;", tune, 1800, 2000, 1700, 1700);
        sings("singer plain 0 50 0 40 0 36 40;", tune, 1800, 2020, 1740, 1760);
        sings("singer true 0 50 0 40 0 36 0;", tune, 1800, 2000, 1700, 1700);
        sings("singer true 0 50 0 40 0 36 40;", tune, 1800, 2000, 1700, 1700);
        // The aim goes on from the aim, not from what was held, leant or drawn.
        sings("singer plain 0 50 0 40 10 20 20;", "note 18;note 36;note 18;note 0;note 18;", 1800, 2000, 1800, 1000, 1800);
        sings("singer plain 0 60 0 40 0 36 20;", "note 18;note 20;note 18;", 1810, 2010, 1810);
    }

    @Says("Part 2: A NOTE that is past MEMORY (since the latest breath, or the beginning, MEMORY NOTES have been sung;")
    @Says("Part 2: has AIM as the NOTE ahead.")
    static void t2_pastMemory() {
        String tune = "note 10;note 12;note 14;breath;note 16;note 18;note 20;";
        sings("singer plain 0 50 0 1 0 36 25;", tune, 1000, 1000, 1000, 1205, 1205, 1205);
        sings("singer plain 0 50 0 2 0 36 25;", tune, 1000, 1205, 1205, 1410, 1615, 1615);
        sings("singer plain 0 50 0 3 0 36 25;", tune, 1000, 1205, 1410, 1615, 1820, 2025);
        sings("singer plain 0 50 0 1 0 36 20;", "breath;note 10;note 12;breath;note 14;", 1000, 1000, 1200);
        sings("singer plain 0 50 0 1 0 36 20;", "note 10;breath;note 12;breath;note 14;note 16;", 1000, 1200, 1400, 1400);
        // Past memory nothing moves, though the ear would leave the drift.
        sings("singer plain 50 50 0 2 0 36 25;", "note 10;note 11;note 12;", 1000, 1005, 1005);
    }

    @Says("Part 2: A NOTE that is past MEMORY")
    static void t2_memoryAsLongAsTheTune() {
        StringBuilder tune = new StringBuilder();
        for (int k = 0; k < 40; k++) tune.append(k % 2 == 0 ? "note10;" : "note12;");
        SungSteps x = with(tune.toString(), "singer plain 0 50 0 40 0 36 20;singer plain 0 50 0 39 0 36 20;");
        Check.due("40 remembers all 40", x.sing(0, VOICE), 39);
        Check.due("the fortieth", x.height(39), 1200);
        Check.due("39 forgets the fortieth", x.sing(1, VOICE), 38);
        Check.due("the 39th", x.height(38), 1000);
        Check.due("the fortieth", x.height(39), 1000);
    }

    @Says("Part 2: true ones remember all)")
    static void t2_trueOnesRememberAll() {
        sings("singer true 0 50 0 1 0 36 20;", "note 10;note 12;note 14;note 16;note 18;", 1000, 1200, 1400, 1600, 1800);
    }

    @Says("Part 2: SUNG: AIM and LEAN and a DRAW of 2 times SPREAD and 1, less SPREAD;")
    static void t2_leanAndSpreadAtTheirEnds() {
        sings("singer plain 0 0 0 1 0 36 20;", "note 18;", 1750);
        sings("singer plain 0 99 0 1 0 36 20;", "note 18;", 1849);
        SungSteps x = with("note 18;", "singer plain 0 50 99 1 0 36 20;singer plain 0 50 0 1 0 36 20;");
        x.seed(seedFor(199, 0));
        x.sing(0, VOICE);
        Check.due("the lowest draw of 199", x.height(0), 1701);
        x.seed(seedFor(199, 198));
        x.sing(0, VOICE);
        Check.due("the highest draw of 199", x.height(0), 1899);
        x.seed(5);
        x.sing(1, VOICE);
        Check.due("a draw of 1 is 0", x.height(0), 1800);
        Check.due("but it is a draw", x.seed(5), afterDraws(5, 1));
        x.sing(0, NO_MODEL);
        Check.due("the start is drawn ahead of it", x.height(0),
            1800 + 100 * (afterDraws(5, 1) / 65536 % 13 - 6) + afterDraws(5, 2) / 65536 % 199 - 99);
    }

    @Says("Part 2: then held to RANGE (100 times L to 100 times H).")
    static void t2_heldToRange() {
        sings("singer plain 0 50 0 40 12 14 20;", "note 12;note 14;note 11;note 15;note 0;note 36;", 1200, 1400, 1200, 1400, 1200, 1400);
        sings("singer plain 0 49 0 40 12 14 20;", "note 12;note 14;", 1200, 1399);
        sings("singer plain 0 51 0 40 12 14 20;", "note 12;note 14;", 1201, 1400);
        sings("singer true 0 50 0 40 7 7 20;", "note 6;note 7;note 8;", 700, 700, 700);
        sings("singer plain 0 0 0 40 0 36 20;", "note 0;note 36;", 0, 3550);
        sings("singer plain 0 99 0 40 0 36 20;", "note 0;note 36;", 49, 3600);
    }

    // ---- part 2: kinds

    @Says("Part 2: KINDS: plain: so. true: LEAN 0, SPREAD 0 (no DRAW then), no DRIFT.")
    static void t2_plainAndTrue() {
        String tune = "note 18;note 20;";
        sings("singer plain 0 60 0 40 0 36 21;", tune, 1810, 2011);
        SungSteps x = with(tune, "singer true 99 99 99 1 0 36 40;singer true 99 0 99 1 0 36 0;");
        for (int s = 0; s < 2; s++) {
            x.seed(9);
            x.sing(s, VOICE);
            heights(x, "true", 1800, 2000);
            Check.due("no draw", x.seed(9), 9);
            x.sing(s, PIANO);
            Check.due("the piano's alone", x.seed(9), afterDraws(9, 1));
        }
    }

    @Says("Part 2: drifting: DRIFT counts twice.")
    static void t2_driftingFrom40LessTo40More() {
        String tune = "note 18;note 20;note 18;";
        sings("singer drifting 0 50 0 40 0 36 0;", tune, 1800, 1960, 1720);
        sings("singer drifting 0 50 0 40 0 36 20;", tune, 1800, 2000, 1800);
        sings("singer drifting 0 50 0 40 0 36 40;", tune, 1800, 2040, 1880);
        SungSteps x = with(tune, "singer drifting 0 50 0 40 0 36 0;");
        Check.due("it is told once", x.singer(0, 7), -20);
    }

    @Says("Part 2: narrow: RANGE is of 5 STEPS from L on at the most.")
    static void t2_narrowOf5StepsAtMost() {
        String tune = "note 9;note 14;note 15;note 16;note 36;";
        sings("singer narrow 0 50 0 40 10 36 20;", tune, 1000, 1400, 1500, 1500, 1500);
        sings("singer narrow 0 50 0 40 10 15 20;", tune, 1000, 1400, 1500, 1500, 1500);
        sings("singer narrow 0 50 0 40 10 16 20;", tune, 1000, 1400, 1500, 1500, 1500);
        sings("singer narrow 0 50 0 40 10 14 20;", tune, 1000, 1400, 1400, 1400, 1400);
        sings("singer narrow 0 50 0 40 10 10 20;", tune, 1000, 1000, 1000, 1000, 1000);
        sings("singer narrow 0 50 0 40 33 36 20;", "note 36;note 32;", 3600, 3300);
        SungSteps x = with(tune, "singer narrow 0 50 0 40 10 36 20;");
        Check.due("H is told as it is", x.singer(0, 6), 36);
    }

    @Says("Part 2: growling: each NOTE is SUNG at 100 times L (no DRAWS at all).")
    static void t2_growlingAtL() {
        for (int low : new int[] {0, 7, 36}) {
            SungSteps x = with("note 0;note 7;note 36;", "singer growling 0 99 99 1 " + low + " 36 40;");
            x.seed(4);
            for (int model = 0; model < 3; model++) {
                x.sing(0, model);
                heights(x, "growls at " + low, 100 * low, 100 * low, 100 * low);
            }
            Check.due("no draws", x.seed(0), 4);
        }
    }

    @Says("Part 2: short: MEMORY is 3 at the most.")
    static void t2_shortOf3AtMost() {
        String tune = "note 10;note 12;note 14;note 16;note 18;";
        sings("singer short 0 50 0 1 0 36 20;", tune, 1000, 1000, 1000, 1000, 1000);
        sings("singer short 0 50 0 2 0 36 20;", tune, 1000, 1200, 1200, 1200, 1200);
        sings("singer short 0 50 0 3 0 36 20;", tune, 1000, 1200, 1400, 1400, 1400);
        sings("singer short 0 50 0 4 0 36 20;", tune, 1000, 1200, 1400, 1400, 1400);
        sings("singer short 0 50 0 40 0 36 20;", tune, 1000, 1200, 1400, 1400, 1400);
        sings("singer plain 0 50 0 4 0 36 20;", tune, 1000, 1200, 1400, 1600, 1600);
    }

    @Says("Part 2: hushed: SINGS nothing (heights NONE; no DRAWS).")
    static void t2_hushedSingsNothing() {
        SungSteps x = with("note 0;note 36;", "singer hushed 0 99 99 1 0 36 40;");
        x.seed(4);
        for (int model = 0; model < 3; model++) {
            Check.due("sing", x.sing(0, model), 0);
            heights(x, "hushed", NONE, NONE);
            Check.due("it is a song", x.told(4), 0);
        }
        Check.due("no draws", x.seed(0), 4);
    }

    @Says("Part 2: deaf: EAR counts twice.")
    static void t2_deafHearsHalf() {
        sings("singer deaf 24 50 0 40 0 36 20;", "note 10;note 11;", 1000, 1100);
        sings("singer deaf 25 50 0 40 0 36 20;", "note 10;note 11;", 1000, 1000);
        sings("singer deaf 74 50 0 40 0 36 20;", "note 10;note 12;", 1000, 1200);
        sings("singer deaf 75 50 0 40 0 36 20;", "note 10;note 12;", 1000, 1000);
        sings("singer deaf 99 50 0 40 0 36 20;", "note 10;note 12;note 15;", 1000, 1000, 1300);
        sings("singer deaf 0 50 0 40 0 36 20;", "note 10;note 11;", 1000, 1100);
    }

    @Says("Part 2: By EAR (not of true ones): if what DUE is more is, without its sign, at most EAR and 50, it is not taken: AIM is the AIM ahead, and DRIFT.")
    static void t2_stepsThatTheEarDoesNotTake() {
        String tune = "note 10;note 11;note 10;note 12;note 10;";
        sings("singer plain 49 50 0 40 0 36 21;", tune, 1000, 1101, 1002, 1203, 1004);
        sings("singer plain 50 50 0 40 0 36 21;", tune, 1000, 1001, 1002, 1203, 1004);
        sings("singer plain 99 50 0 40 0 36 19;", tune, 1000, 999, 998, 1197, 996);
        sings("singer plain 0 50 0 40 0 36 21;", "note 10;note 10;note 11;", 1000, 1001, 1102);
        sings("singer true 99 50 0 40 0 36 21;", tune, 1000, 1100, 1000, 1200, 1000);
        sings("singer drifting 50 50 0 40 0 36 21;", "note 10;note 11;", 1000, 1002);
    }

    // ---- part 2: songs and scores

    @Says("Part 2: SONG: what was sung last: by whom, heights.")
    static void t2_theSongIsTheLatest() {
        SungSteps x = with("note 12;", "singer true 0 50 0 40 0 36 20;singer growling 0 50 0 40 3 36 20;singer hushed 0 50 0 1 0 0 20;");
        Check.due("none yet", x.told(4), NONE);
        int[] heights = {1200, 300, NONE};
        for (int s = 0; s < 3; s++) {
            x.sing(s, VOICE);
            Check.due("by", x.told(4), s);
            Check.due("height", x.height(0), heights[s]);
        }
        x.sing(0, VOICE);
        Check.due("the first again", x.height(0), 1200);
    }

    @Says("Part 2: HOME: SUNG less DUE of a NOTE. SLID: HOME of the last NOTE less that of the first.")
    static void t2_slidFromHomeToHome() {
        SungSteps x = with("note 12;note 14;note 10;", "singer plain 0 60 0 40 0 36 0;singer plain 0 60 0 40 0 36 40;singer plain 0 0 0 40 12 36 20;");
        x.sing(0, VOICE);
        Check.due("low", x.slid(), -40);
        x.sing(1, VOICE);
        Check.due("high", x.slid(), 40);
        x.sing(2, VOICE);
        Check.due("homes 0, -50, 200", x.slid(), 200);
        x = with("note 12;", "singer growling 0 60 0 40 36 36 0;");
        x.sing(0, VOICE);
        Check.due("one note slides nowhere", x.slid(), 0);
    }

    /* LEAN -50 on a note at L is held to it, and so is LEAN 49 on a note at H: the next one is off by LEAN and DRIFT. */
    private static final String DOWN = "note 12;note 14;", UP = "note 14;note 12;";

    private static SungSteps offBy(int cents) {
        SungSteps x = cents < 0 ? with(DOWN, "singer plain 0 0 0 40 12 36 " + (70 + cents) + ";")
            : with(UP, "singer plain 0 99 0 40 0 14 " + (cents - 29) + ";");
        x.sing(0, VOICE);
        Check.due("the first is at home", x.height(0), x.note(0, 0));
        Check.due("the second is off", x.height(1) - x.note(1, 0), cents);
        return x;
    }

    @Says("Part 2: SCORES of THE SONG: 0 by steps: NOTES behind the first whose height less that of the NOTE ahead is within 50 of what is DUE;")
    static void t2_byStepsWithin50() {
        int[] offs = {-51, -50, 50, 51}, scores = {0, 1, 1, 0};
        for (int k = 0; k < 4; k++) Check.due("off by " + offs[k], offBy(offs[k]).score(0), scores[k]);
        SungSteps x = with("note 12;", "singer true 0 50 0 1 0 36 20;");
        Check.due("one note has no step", x.sing(0, VOICE), 0);
        x = with("note 12;".repeat(40), "singer true 0 50 0 1 0 36 20;");
        Check.due("forty have 39", x.sing(0, VOICE), 39);
    }

    @Says("Part 2: 1 by home: NOTES whose HOME is within 50;")
    static void t2_byHomeWithin50() {
        int[] offs = {-51, -50, 50, 51}, scores = {1, 2, 2, 1};
        for (int k = 0; k < 4; k++) Check.due("off by " + offs[k], offBy(offs[k]).score(1), scores[k]);
        SungSteps x = with("note 12;".repeat(40), "singer true 0 50 0 1 0 36 20;singer growling 0 50 0 1 36 36 20;");
        x.sing(0, VOICE);
        Check.due("all forty", x.score(1), 40);
        x.sing(1, VOICE);
        Check.due("none", x.score(1), 0);
    }

    @Says("Part 2: 2 by start: 1, if that of the first is;")
    static void t2_byStartWithin50() {
        int[][] rows = {{49, 0, 0, 1}, {49, 1, 2, 1}, {49, 2, 4, 0}, {-50, 0, 0, 1}, {-50, 1, 0, 0}};
        for (int[] row : rows) {
            SungSteps x = with("note 12;note 14;", "singer plain 0 " + (50 + row[0]) + " " + row[1] + " 40 0 36 20;");
            x.seed(seedFor(2 * row[1] + 1, row[2]));
            x.sing(0, VOICE);
            Check.due("the first is off", x.height(0) - 1200, row[0] + row[2] - row[1]);
            Check.due("by start", x.score(2), row[3]);
        }
    }

    @Says("Part 2: 3 by end: 1, if SLID is within 50.")
    static void t2_byEndWithin50() {
        int[] offs = {-51, -50, 50, 51}, scores = {0, 1, 1, 0};
        for (int k = 0; k < 4; k++) {
            SungSteps x = offBy(offs[k]);
            Check.due("slid", x.slid(), offs[k]);
            Check.due("by end", x.score(3), scores[k]);
        }
    }

    @Says("Part 2: CALLS: a SCORE calls a SONG wrong, if not all NOTES are so (by steps: behind the first).")
    static void t2_oneNoteThatIsNotSo() {
        Check.due("all are so", offBy(50).calls(), 0);
        Check.due("one is not: by steps, by home, by end", offBy(51).calls(), 11);
        SungSteps x = with("note 12;", "singer true 0 50 0 1 0 36 20;singer true 0 50 0 1 13 36 20;");
        x.sing(0, VOICE);
        Check.due("one note, right", x.calls(), 0);
        x.sing(1, VOICE);
        Check.due("one note, wrong by home and by start; it has no step", x.calls(), 6);
        x = with("note 12;note 14;note 13;", "singer true 0 50 0 1 14 36 20;");
        x.sing(0, VOICE);
        Check.due("by start and the others, by end 100 less", x.calls(), 15);
    }

    @Says("Part 2: A SONG without NOTES, of a hushed one: all SCORES 0, wrong.")
    static void t2_songsWithoutNotesAndHushedOnes() {
        SungSteps x = with("", "singer true 0 50 0 1 0 36 20;singer hushed 0 50 0 1 0 36 20;");
        for (int s = 0; s < 2; s++) {
            Check.due("without notes", x.sing(s, VOICE), 0);
            for (int which = 0; which < 4; which++) Check.due("score " + which, x.score(which), 0);
            Check.due("wrong by all", x.calls(), 15);
        }
        x = with("note 0;note 0;", "singer hushed 0 50 0 1 0 36 20;");
        Check.due("hushed", x.sing(0, VOICE), 0);
        for (int which = 0; which < 4; which++) Check.due("score " + which, x.score(which), 0);
        Check.due("wrong by all", x.calls(), 15);
        x = with("note 0;", "singer hushed 0 50 0 1 0 36 20;");
        x.sing(0, VOICE);
        Check.due("hushed over one note, by steps too", x.calls(), 15);
    }

    private static void fooled(String tune, int height, int count) {
        SungSteps x = with(tune, "");
        Check.due("hum for " + tune, x.fooled(0), height);
        Check.due("how many of " + tune, x.fooled(1), count);
    }

    @Says("Part 2: FOOLED: a hum of one height (0 to 3600, by 50) to which most DUES are within 50: that height;")
    static void t2_aHumBetweenTwoSteps() {
        fooled("note 0;", 0, 1);
        fooled("note 0;note 1;", 50, 2);
        fooled("note 36;", 3550, 1);
        fooled("note 35;note 36;", 3550, 2);
        fooled("note 10;note 11;note 12;", 1050, 2);
        fooled("note 10;note 12;note 12;", 1150, 2);
        fooled("note 7;".repeat(40), 650, 40);
    }

    @Says("Part 2: of like ones the least; how many.")
    static void t2_ofLikeHumsTheLeast() {
        fooled("note 20;note 10;", 950, 1);
        fooled("note 36;note 0;", 0, 1);
        fooled("note 30;note 31;note 4;note 5;", 450, 2);
        fooled("note 4;note 5;note 30;note 31;note 31;", 3050, 3);
    }

    // ---- promises 11 to 16

    @Says("Promise 11: A SINGER SINGS THE TUNE with a MODEL: SCORE by steps. UNKNOWN, OUTSIDE.")
    static void p11_singAtItsBounds() {
        SungSteps x = with("note 12;note 14;note 16;", "singer true 0 50 0 1 0 36 20;singer growling 0 50 0 1 0 36 20;");
        Check.due("the first", x.sing(0, 0), 2);
        Check.due("the last", x.sing(1, 2), 0);
        for (int s : new int[] {-1, 2, LEAST, MOST}) Check.due("singer " + s, x.sing(s, 0), UNKNOWN);
        for (int model : new int[] {-1, 3, LEAST, MOST}) Check.due("model " + model, x.sing(0, model), OUTSIDE);
        Check.due("the song stays", x.told(4), 1);
        x.singers();
        Check.due("nobody sings", x.sing(0, 0), UNKNOWN);
        Check.due("without a tune", with("", "singer true 0 50 0 1 0 36 20;").sing(0, 0), 0);
    }

    @Says("Promise 12: The height of a NOTE of THE SONG; NONE: hushed. UNKNOWN, NOT: no SONG.")
    static void p12_heightAtItsBounds() {
        SungSteps x = with("note 12;note 36;", "singer true 0 50 0 1 0 36 20;singer hushed 0 50 0 1 0 36 20;");
        Check.due("no song", x.height(0), NOT);
        Check.due("no song", x.height(1), NOT);
        Check.due("no such note", x.height(2), UNKNOWN);
        x.sing(0, 2);
        Check.due("the first", x.height(0), 1200);
        Check.due("the last", x.height(1), 3600);
        for (int k : new int[] {-1, 2, LEAST, MOST}) Check.due("note " + k, x.height(k), UNKNOWN);
        x.sing(1, 2);
        Check.due("hushed", x.height(1), NONE);
        Check.due("hushed, no such note", x.height(2), UNKNOWN);
        x = with("", "singer true 0 50 0 1 0 36 20;");
        x.sing(0, 2);
        Check.due("a song without notes", x.height(0), UNKNOWN);
    }

    @Says("Promise 13: SLID (0 without NOTES, of a hushed one). NOT: no SONG.")
    static void p13_slidAtItsBounds() {
        SungSteps x = with("note 12;note 14;", "singer growling 0 50 0 1 0 36 20;singer hushed 0 50 0 1 0 36 20;");
        Check.due("no song", x.slid(), NOT);
        x.sing(0, 2);
        Check.due("slid", x.slid(), -200);
        x.sing(1, 2);
        Check.due("hushed", x.slid(), 0);
        x = with("", "singer true 0 50 0 1 0 36 20;");
        Check.due("no song", x.slid(), NOT);
        x.sing(0, 2);
        Check.due("without notes", x.slid(), 0);
    }

    @Says("Promise 14: A SCORE (0 .. 3). OUTSIDE, NOT: no SONG.")
    static void p14_scoreAtItsBounds() {
        SungSteps x = with("note 12;note 14;", "singer true 0 50 0 1 0 36 20;");
        for (int which = 0; which < 4; which++) Check.due("no song", x.score(which), NOT);
        for (int which : new int[] {-1, 4, LEAST, MOST}) Check.due("no song, score " + which, x.score(which), OUTSIDE);
        x.sing(0, 2);
        int[] scores = {1, 2, 1, 1};
        for (int which = 0; which < 4; which++) Check.due("score " + which, x.score(which), scores[which]);
        for (int which : new int[] {-1, 4, LEAST, MOST}) Check.due("score " + which, x.score(which), OUTSIDE);
    }

    @Says("Promise 15: SCORES that call THE SONG wrong (a SET). NOT: no SONG.")
    static void p15_callsAtTheirBounds() {
        SungSteps x = with("note 12;note 14;", "singer true 0 50 0 1 0 36 20;singer hushed 0 50 0 1 0 36 20;");
        Check.due("no song", x.calls(), NOT);
        x.sing(0, 2);
        Check.due("none", x.calls(), 0);
        x.sing(1, 2);
        Check.due("all", x.calls(), 15);
        x.tune();
        Check.due("no song behind a tune", x.calls(), NOT);
    }

    @Says("Promise 16: FOOLED: what = 0 the height (NONE without NOTES), 1 how many. OUTSIDE.")
    static void p16_fooledAtItsBounds() {
        fooled("", NONE, 0);
        fooled("breath;", NONE, 0);
        SungSteps x = with("note 0;", "");
        Check.due("the height 0, not none", x.fooled(0), 0);
        Check.due("one", x.fooled(1), 1);
        for (int what : new int[] {-1, 2, LEAST, MOST}) Check.due("what " + what, x.fooled(what), OUTSIDE);
    }
}
