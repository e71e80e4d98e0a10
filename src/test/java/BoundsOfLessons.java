/** Part 3 of the terms as far as lessons, keys and ages go, and promises 24 to 27. */
final class BoundsOfLessons {
    private static final int NONE = SungSteps.NONE, UNKNOWN = SungSteps.UNKNOWN, OUTSIDE = SungSteps.OUTSIDE;
    private static final int LEAST = Integer.MIN_VALUE, MOST = Integer.MAX_VALUE;
    private static final int EAR = 0, VOICE = 1, MEMORY = 2, RANGE = 3;
    private static final String THREE = "note 10;note 12;note 14;";

    private BoundsOfLessons() {
    }

    private static SungSteps with(String tune, String singers) {
        return Check.with(tune, singers, "");
    }

    /** What a value of a singer becomes by weeks of a part. */
    private static void becomes(String singer, int part, int what, int... want) {
        SungSteps x = with("", singer);
        for (int k = 0; k < want.length; k++) {
            x.lesson(0, part);
            Check.due(singer + " " + what + " behind week " + k, x.singer(0, what), want[k]);
        }
    }

    private static void singerIs(SungSteps x, int s, int... want) {
        for (int what = 0; what < 8; what++) Check.due("singer " + s + ", " + what, x.singer(s, what), want[what]);
    }

    // ---- part 3: lessons

    @Says("Part 3: LESSONS: a week of a PART moves: ear: E less E / 4 and 1 (0 at least);")
    static void t3_earDownTo0() {
        becomes("singer plain 0 50 0 1 0 0 20;", EAR, 1, 0, 0);
        becomes("singer plain 1 50 0 1 0 0 20;", EAR, 1, 0, 0);
        becomes("singer plain 4 50 0 1 0 0 20;", EAR, 1, 2, 1, 0, 0);
        becomes("singer plain 99 50 0 1 0 0 20;", EAR, 1, 74, 55, 41, 30, 22, 16, 11, 8, 5, 3, 2, 1, 0, 0);
    }

    @Says("Part 3: voice: LEAN and SPREAD a third nearer to 0 (each / 3 less, cut);")
    static void t3_voiceTill2() {
        becomes("singer plain 0 99 0 1 0 0 20;", VOICE, 2, 33, 22, 15, 10, 7, 5, 4, 3, 2, 2);
        becomes("singer plain 0 0 0 1 0 0 20;", VOICE, 2, -34, -23, -16, -11, -8, -6, -4, -3, -2, -2);
        becomes("singer plain 0 50 0 1 0 0 20;", VOICE, 2, 0, 0);
        becomes("singer plain 0 50 99 1 0 0 20;", VOICE, 3, 66, 44, 30, 20, 14, 10, 7, 5, 4, 3, 2, 2);
        becomes("singer plain 0 50 0 1 0 0 20;", VOICE, 3, 0, 0);
    }

    @Says("Part 3: memory: M 2 more (40 at most);")
    static void t3_memoryUpTo40() {
        becomes("singer plain 0 50 0 1 0 0 20;", MEMORY, 4, 3, 5);
        becomes("singer plain 0 50 0 37 0 0 20;", MEMORY, 4, 39, 40, 40);
        becomes("singer plain 0 50 0 38 0 0 20;", MEMORY, 4, 40, 40);
        becomes("singer plain 0 50 0 40 0 0 20;", MEMORY, 4, 40);
        becomes("singer short 0 50 0 3 0 0 20;", MEMORY, 4, 5, 7);
    }

    @Says("Part 3: range: H one more (36 at most), L one less (0 at least).")
    static void t3_rangeUpTo36AndDownTo0() {
        becomes("singer plain 0 50 0 1 2 34 20;", RANGE, 6, 35, 36, 36);
        becomes("singer plain 0 50 0 1 2 34 20;", RANGE, 5, 1, 0, 0);
        becomes("singer plain 0 50 0 1 36 36 20;", RANGE, 6, 36);
        becomes("singer plain 0 50 0 1 36 36 20;", RANGE, 5, 35);
        becomes("singer plain 0 50 0 1 0 0 20;", RANGE, 5, 0);
        becomes("singer plain 0 50 0 1 0 0 20;", RANGE, 6, 1);
        becomes("singer narrow 0 50 0 1 9 10 20;", RANGE, 6, 11, 12, 13, 14, 15);
    }

    @Says("Part 3: LESSONS: a week of a PART moves:")
    static void t3_aWeekMovesItsPartAlone() {
        SungSteps x = with("", "singer deaf 99 99 99 5 5 30 40;singer deaf 99 99 99 5 5 30 40;");
        x.lesson(0, EAR);
        singerIs(x, 0, 6, 74, 49, 99, 5, 5, 30, 20);
        x.lesson(0, VOICE);
        singerIs(x, 0, 6, 74, 33, 66, 5, 5, 30, 20);
        x.lesson(0, MEMORY);
        singerIs(x, 0, 6, 74, 33, 66, 7, 5, 30, 20);
        x.lesson(0, RANGE);
        singerIs(x, 0, 6, 74, 33, 66, 7, 4, 31, 20);
        singerIs(x, 1, 6, 99, 49, 99, 5, 5, 30, 20);
    }

    // ---- part 3: plan

    @Says("Part 3: PLAN for n weeks (1 .. 4) of a SINGER: rows of PARTS by which,")
    @Says("Part 3: SCORE by steps and by home together is greatest")
    static void t3_planFromOneWeekToFour() {
        // The range lacks two steps at H: one week is in vain, since a step below is off by 100.
        SungSteps x = with(THREE, "singer plain 0 50 0 40 10 12 20;");
        int[] scores = {3, 5, 5, 5};
        int[][] rows = {{EAR}, {RANGE, RANGE}, {EAR, RANGE, RANGE}, {EAR, EAR, RANGE, RANGE}};
        for (int n = 1; n <= 4; n++) {
            Check.due("scores of " + n, x.plan(0, n, 0), scores[n - 1]);
            for (int w = 0; w < n; w++) Check.due("week " + w + " of " + n, x.plan(0, n, 1 + w), rows[n - 1][w]);
        }
        // All four parts are needed, one week of each: the ear takes steps of 100, the voice steps off by 54, the memory three
        // notes, the range the highest.
        x = with("note 10;note 11;note 12;", "singer plain 50 50 27 1 10 11 20;");
        Check.due("all", x.plan(0, 4, 0), 5);
        for (int w = 0; w < 4; w++) Check.due("in their order", x.plan(0, 4, 1 + w), w);
        Check.holds("three weeks are too few", x.plan(0, 3, 0) < 5);
        // DRIFT is in no lesson: the fourth home is off by 60, whatever is learnt.
        x = with("note 12;note 14;note 16;note 18;", "singer plain 0 50 0 40 0 36 40;");
        for (int n = 1; n <= 4; n++) Check.due("steps 3, homes 3", x.plan(0, n, 0), 6);
    }

    @Says("Part 3: sung PLAINLY (with a voice; no DRAWS: in place of them SPREAD more, SPREAD less, in turns from the first NOTE on)")
    static void t3_plainlyInTurns() {
        // Homes are LEAN and SPREAD, LEAN less SPREAD, in turns; 50 is within, 51 is not.
        String[] singers = {"singer plain 0 50 25 40 0 36 20;", "singer plain 0 50 26 40 0 36 20;", "singer plain 0 50 50 40 0 36 20;",
            "singer plain 0 51 50 40 0 36 20;", "singer plain 0 49 50 40 0 36 20;"};
        // Behind a week of the ear (nothing to move) all stay: steps are off by twice SPREAD.
        int[] scores = {2 + 3, 0 + 3, 0 + 3, 0 + 1, 0 + 2};
        for (int k = 0; k < 5; k++) {
            SungSteps x = with(THREE, singers[k]);
            x.seed(6);
            Check.due(singers[k], x.lesson(0, EAR), scores[k]);
            Check.due("no draws", x.seed(0), 6);
        }
        SungSteps x = with("note 12;", "singer plain 0 50 50 40 0 36 20;singer plain 0 51 50 40 0 36 20;singer plain 0 49 51 40 0 36 20;"
            + "singer plain 0 0 99 40 0 36 20;singer plain 0 0 0 40 0 36 20;");
        int[] first = {1, 0, 1, 1, 1};
        for (int s = 0; s < 5; s++) Check.due("the first note is SPREAD more, singer " + s, x.lesson(s, EAR), first[s]);
        x = with(THREE, "singer true 0 0 99 1 0 36 0;singer growling 0 0 99 1 12 36 0;singer hushed 0 50 0 40 0 36 20;");
        Check.due("true", x.lesson(0, EAR), 5);
        Check.due("growling", x.lesson(1, EAR), 1);
        Check.due("hushed", x.lesson(2, EAR), 0);
    }

    @Says("Part 3: (nothing changes by it); of like ones the first.")
    static void t3_planChangesNothingAndIsTheFirst() {
        SungSteps x = with(THREE, "singer true 9 9 9 9 0 36 9;singer plain 60 70 30 3 11 18 21;singer hushed 9 9 9 9 0 36 9;");
        x.seed(4);
        for (int n = 1; n <= 4; n++) {
            for (int s = 0; s < 3; s++) {
                Check.holds("scores", x.plan(s, n, 0) >= 0);
                for (int w = 0; w < n && s != 1; w++) Check.due("all rows are like: ear", x.plan(s, n, 1 + w), EAR);
            }
        }
        Check.due("true has all", x.plan(0, 4, 0), 5);
        Check.due("hushed has none", x.plan(2, 4, 0), 0);
        singerIs(x, 1, 0, 60, 20, 30, 3, 11, 18, 1);
        Check.due("no song", x.told(4), NONE);
        Check.due("no draws", x.seed(0), 4);
        // Voice, voice, memory, and any other is like: the row that begins with the least.
        x = with(THREE, "singer plain 0 50 40 2 0 36 20;");
        int[] row = {EAR, VOICE, VOICE, MEMORY};
        for (int w = 0; w < 4; w++) Check.due("week " + w, x.plan(0, 4, 1 + w), row[w]);
    }

    // ---- part 3: key

    private static void key(String tune, String singers, int steps, int count) {
        SungSteps x = with(tune, singers);
        Check.due("key of " + tune + singers, x.key(0), steps);
        Check.due("able by it of " + tune + singers, x.key(1), count);
    }

    @Says("Part 3: KEY: by how many STEPS (-12 .. 12) THE TUNE is laid otherwise so that most SINGERS")
    @Says("Part 3: have all NOTES within RANGE")
    static void t3_keysFrom12LowerTo12Higher() {
        key("note 12;note 20;", "singer plain 0 50 0 1 0 8 20;", -12, 1);
        key("note 13;note 21;", "singer plain 0 50 0 1 0 8 20;", 0, 0);
        key("note 16;note 24;", "singer plain 0 50 0 1 28 36 20;", 12, 1);
        key("note 15;note 23;", "singer plain 0 50 0 1 28 36 20;", 0, 0);
        key("note 12;note 20;", "singer plain 0 50 0 1 12 20 20;", 0, 1);
        key("note 12;note 20;", "singer plain 0 50 0 1 12 19 20;", 0, 0);
        key("note 12;note 20;", "singer plain 0 50 0 1 13 36 20;", 1, 1);
        key("note 12;note 20;", "singer plain 0 50 0 1 0 19 20;", -1, 1);
        key("", "singer plain 0 50 0 1 9 9 20;", 0, 1);
        key("note 12;", "", 0, 0);
        key("note 12;", "singer true 0 50 0 1 12 12 20;".repeat(12), 0, 12);
    }

    @Says("Part 3: (not growling, not hushed)")
    static void t3_keysOfThoseWhoSing() {
        key("note 12;", "singer growling 0 50 0 1 0 36 20;singer hushed 0 50 0 1 0 36 20;", 0, 0);
        key("", "singer growling 0 50 0 1 0 36 20;singer hushed 0 50 0 1 0 36 20;", 0, 0);
        key("note 12;", "singer plain 0 50 0 1 0 36 20;singer true 0 50 0 1 0 36 20;singer drifting 0 50 0 1 0 36 20;"
            + "singer narrow 0 50 0 1 12 12 20;singer short 0 50 0 1 0 36 20;singer deaf 0 50 0 1 0 36 20;", 0, 6);
    }

    @Says("Part 3: (narrow ones within theirs):")
    static void t3_keysOfNarrowOnes() {
        key("note 12;note 17;", "singer narrow 0 50 0 1 12 36 20;", 0, 1);
        key("note 12;note 18;", "singer narrow 0 50 0 1 12 36 20;", 0, 0);
        key("note 12;note 18;", "singer plain 0 50 0 1 12 36 20;", 0, 1);
        key("note 12;note 17;", "singer narrow 0 50 0 1 10 36 20;", -2, 1);
        key("note 12;note 17;", "singer narrow 0 50 0 1 12 16 20;", 0, 0);
    }

    @Says("Part 3: of like ones the nearest to 0, then the lower; how many.")
    static void t3_ofLikeKeysTheNearestThenTheLower() {
        String five = "singer plain 0 50 0 1 0 9 20;", up = "singer plain 0 50 0 1 15 36 20;";
        key("note 12;", five + up, -3, 1);
        key("note 12;", up + five, -3, 1);
        key("note 12;", "singer plain 0 50 0 1 0 8 20;" + up, 3, 1);
        key("note 12;", five + up + up, 3, 2);
        key("note 12;", "singer plain 0 50 0 1 0 0 20;singer plain 0 50 0 1 24 24 20;", -12, 1);
        key("note 12;", "singer plain 0 50 0 1 0 36 20;" + up, 3, 2);
    }

    // ---- part 3: age

    private static void age(String tune, String singer, int years) {
        SungSteps x = with(tune, singer);
        Check.due("age by " + tune + singer, x.age(0), years);
    }

    @Says("Part 3: AGE: each year is as a week of each PART in order; how many years (0 .. 30) till a SINGER, sung PLAINLY, has all NOTES right by steps and by home")
    static void t3_agesFrom0To30() {
        age("note 12;", "singer true 0 50 0 1 0 36 20;", 0);
        age("note 12;", "singer true 0 50 0 1 13 36 20;", 1);
        age("note 36;", "singer true 0 50 0 1 0 6 20;", 30);
        age("note 36;", "singer true 0 50 0 1 0 5 20;", NONE);
        age("note 0;", "singer true 0 50 0 1 30 36 20;", 30);
        age("note 0;", "singer true 0 50 0 1 31 36 20;", NONE);
        // SPREAD 26, then 18: 36 a step is within 50.
        age("note 12;note 14;", "singer plain 0 50 26 40 0 36 20;", 1);
        age("note 12;note 14;", "singer plain 0 50 25 40 0 36 20;", 0);
        // Right by steps, not by home: LEAN and SPREAD 51; then 34.
        age("note 12;note 14;", "singer plain 0 99 2 40 0 36 20;", 1);
        // Right by home, not by steps: 24 and 26 off.
        age("note 12;note 14;", "singer plain 0 51 26 40 0 36 20;", 1);
        // DRIFT is in no lesson: homes 0, 20, 40 are right, a fourth of 60 never is, though start and steps are.
        age("note 12;note 14;note 16;", "singer plain 0 50 0 40 0 36 40;", 0);
        age("note 12;note 14;note 16;note 18;", "singer plain 0 50 0 40 0 36 40;", NONE);
        // A year is a week of each: M 3 and EAR 36 at once.
        age("note 10;note 11;note 12;", "singer plain 50 50 0 1 0 36 20;", 1);
        age("note 10;note 12;note 14;note 16;", "singer plain 0 50 0 1 0 36 20;", 2);
    }

    @Says("Part 3: (a TUNE without NOTES, one that is hushed never is); NONE.")
    static void t3_agesThatNeverAre() {
        age("", "singer true 0 50 0 1 0 36 20;", NONE);
        age("breath;", "singer true 0 50 0 1 0 36 20;", NONE);
        age("note 12;", "singer hushed 0 50 0 1 0 36 20;", NONE);
        age("", "singer hushed 0 50 0 1 0 36 20;", NONE);
        age("note 12;note 14;note 16;note 18;", "singer short 0 50 0 40 0 36 20;", NONE);
        age("note 12;", "singer growling 0 50 0 1 12 36 20;", 0);
        age("note 12;", "singer growling 0 50 0 1 11 36 20;", NONE);
    }

    // ---- promises 24 to 27

    @Says("Promise 24: A week of a PART for a SINGER: SCORE by steps and by home together, sung PLAINLY then. UNKNOWN.")
    static void p24_lessonAtItsBounds() {
        SungSteps x = with(THREE, "singer true 0 50 0 1 0 36 20;singer plain 0 50 27 40 0 36 20;");
        x.sing(0, 2);
        for (int part = 0; part < 4; part++) Check.due("part " + part, x.lesson(0, part), 5);
        Check.due("steps off by 54", x.lesson(1, EAR), 3);
        Check.due("behind the week, not ahead of it", x.lesson(1, VOICE), 5);
        for (int s : new int[] {-1, 2, LEAST, MOST}) Check.due("singer " + s, x.lesson(s, EAR), UNKNOWN);
        for (int part : new int[] {-1, 4, LEAST, MOST}) Check.due("part " + part, x.lesson(0, part), UNKNOWN);
        Check.due("the song stays", x.told(4), 0);
        Check.due("its heights stay", x.height(2), 1400);
        Check.due("without notes", with("", "singer true 0 50 0 1 0 36 20;").lesson(0, EAR), 0);
    }

    @Says("Promise 25: PLAN: what = 0 the SCORES, 1 and w the PART of week w. UNKNOWN, OUTSIDE (n; also a week that is not of n).")
    static void p25_planAtItsBounds() {
        SungSteps x = with(THREE, "singer true 0 50 0 1 0 36 20;singer plain 0 50 0 40 10 12 20;");
        for (int n = 1; n <= 4; n++) {
            Check.due("the scores", x.plan(0, n, 0), 5);
            for (int w = 0; w < n; w++) Check.due("week " + w + " of " + n, x.plan(0, n, 1 + w), EAR);
            for (int what : new int[] {-1, n + 1, LEAST, MOST}) Check.due("what " + what + " of " + n, x.plan(0, n, what), OUTSIDE);
        }
        for (int n : new int[] {0, -1, 5, LEAST, MOST}) Check.due("n " + n, x.plan(0, n, 0), OUTSIDE);
        Check.due("the last week of four", x.plan(1, 4, 4), RANGE);
        for (int s : new int[] {-1, 2, LEAST, MOST}) Check.due("singer " + s, x.plan(s, 1, 0), UNKNOWN);
    }

    @Says("Promise 26: KEY: what = 0 by how many STEPS, 1 how many SINGERS. OUTSIDE.")
    static void p26_keyAtItsBounds() {
        SungSteps x = new SungSteps();
        Check.due("a new object", x.key(0), 0);
        Check.due("a new object", x.key(1), 0);
        x = with("note 12;", "singer plain 0 50 0 1 14 14 20;");
        Check.due("steps", x.key(0), 2);
        Check.due("singers", x.key(1), 1);
        x.lesson(0, RANGE);
        Check.due("as it has become", x.key(0), 1);
        for (int what : new int[] {-1, 2, LEAST, MOST}) Check.due("what " + what, x.key(what), OUTSIDE);
    }

    @Says("Promise 27: AGE; NONE. UNKNOWN.")
    static void p27_ageAtItsBounds() {
        SungSteps x = with("note 12;", "singer true 0 50 0 1 14 36 20;singer hushed 0 50 0 1 0 36 20;");
        x.seed(6);
        Check.due("two years", x.age(0), 2);
        Check.due("never", x.age(1), NONE);
        singerIs(x, 0, 1, 0, 0, 0, 1, 14, 36, 0);
        Check.due("no draws", x.seed(6), 6);
        Check.due("no song", x.told(4), NONE);
        x.lesson(0, RANGE);
        Check.due("as it has become", x.age(0), 1);
        for (int s : new int[] {-1, 2, LEAST, MOST}) Check.due("singer " + s, x.age(s), UNKNOWN);
    }
}
