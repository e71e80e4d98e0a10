/** Promises 24 to 27: lesson, plan, key, age. */
public final class LessonsTest {
    public static void main(String[] args) {
        lessonsMove();
        lessonsAtTheirEnds();
        lessonsScorePlainly();
        lessonRefuses();
        plansByAllRows();
        planTellsTheFirst();
        planRefuses();
        keys();
        keyOfLikeOnes();
        keyLeavesOut();
        agesByLessons();
        agesByHand();
        Check.end("LessonsTest");
    }

    private static SungSteps with(String tune, String singers) {
        SungSteps x = new SungSteps();
        Check.holds("tune " + tune, Check.tune(x, tune) >= 0);
        Check.holds("singers " + singers, Check.singers(x, singers) >= 0);
        return x;
    }

    private static void singerIs(SungSteps x, String what, int... want) {
        for (int k = 0; k < want.length; k++) Check.due(what + " " + k, x.singer(0, k), want[k]);
    }

    private static void lessonsMove() {
        SungSteps x = with("note 12;", "singer plain 99 99 99 5 5 30 18;singer plain 99 0 99 5 5 30 18;");
        x.lesson(0, 0);
        singerIs(x, "ear", 0, 99 - 24 - 1, 49, 99, 5, 5, 30, -2);
        x.lesson(0, 1);
        singerIs(x, "voice", 0, 74, 33, 66, 5, 5, 30, -2);
        x.lesson(0, 2);
        singerIs(x, "memory", 0, 74, 33, 66, 7, 5, 30, -2);
        x.lesson(0, 3);
        singerIs(x, "range", 0, 74, 33, 66, 7, 4, 31, -2);
        x.lesson(1, 1);
        Check.due("a lean below", x.singer(1, 2), -34);
        Check.due("the other one only", x.singer(0, 2), 33);
    }

    private static void lessonsAtTheirEnds() {
        SungSteps x = with("note 12;", "singer plain 3 52 2 38 1 35 20;");
        int[] ears = {2, 1, 0, 0};
        for (int ear : ears) {
            x.lesson(0, 0);
            Check.due("ear", x.singer(0, 1), ear);
        }
        x.lesson(0, 1);
        Check.due("two thirds of two", x.singer(0, 2), 2);
        Check.due("two thirds of two", x.singer(0, 3), 2);
        int[] memories = {40, 40}, lows = {0, 0}, highs = {36, 36};
        for (int k = 0; k < 2; k++) {
            x.lesson(0, 2);
            x.lesson(0, 3);
            Check.due("memory", x.singer(0, 4), memories[k]);
            Check.due("low", x.singer(0, 5), lows[k]);
            Check.due("high", x.singer(0, 6), highs[k]);
        }
        x = with("note 12;", "singer plain 3 52 2 39 1 35 20;");
        x.lesson(0, 2);
        Check.due("memory of 39", x.singer(0, 4), 40);
    }

    private static void lessonsScorePlainly() {
        // Plainly: first up by SPREAD, then down: homes 40, -40, 40 within 50, steps off by 80.
        SungSteps x = with("note 12;note 14;note 16;", "singer plain 0 50 60 40 0 36 20;singer hushed 0 50 60 40 0 36 20;"
            + "singer growling 0 50 60 40 12 36 20;singer true 0 0 99 1 0 36 40;singer plain 0 71 60 40 0 36 20;");
        x.sing(3, 2);
        x.seed(4);
        Check.due("spread 40", x.lesson(0, 1), 0 + 3);
        Check.due("spread 27", x.lesson(0, 1), 0 + 3);
        Check.due("spread 18", x.lesson(0, 1), 2 + 3);
        Check.due("hushed", x.lesson(1, 1), 0);
        Check.due("growling at 12, then a step below", x.lesson(2, 0), 0 + 1);
        Check.due("below", x.lesson(2, 3), 0);
        Check.due("true", x.lesson(3, 0), 2 + 3);
        // LEAN 21 becomes 14, SPREAD 40: 54 off, -26, 54 off: up first.
        Check.due("up first", x.lesson(4, 1), 0 + 1);
        Check.due("no draws", x.seed(0), 4);
        Check.due("the song stays", x.told(4), 3);
        Check.due("its heights too", x.height(1), 1400);
        Check.due("without notes", with("", "singer plain 0 50 60 40 0 36 20;").lesson(0, 0), 0);
    }

    private static void lessonRefuses() {
        SungSteps x = with("note 12;", "singer plain 50 50 60 20 5 30 20;");
        Check.due("singer 1", x.lesson(1, 0), SungSteps.UNKNOWN);
        Check.due("singer -1", x.lesson(-1, 0), SungSteps.UNKNOWN);
        Check.due("part 4", x.lesson(0, 4), SungSteps.UNKNOWN);
        Check.due("part -1", x.lesson(0, -1), SungSteps.UNKNOWN);
        singerIs(x, "as it was", 0, 50, 0, 60, 20, 5, 30, 0);
    }

    private static final String HARD_TUNE = "note 10;note 12;note 13;note 18;breath;note 20;note 17;note 16;note 12;note 10;";
    private static final String PUPILS = "singer plain 60 70 30 3 11 18 21;singer deaf 40 40 22 4 9 17 20;"
        + "singer narrow 10 50 20 5 10 30 20;singer short 55 60 40 9 10 20 20;singer drifting 70 50 45 2 12 16 19;";

    /** All rows, by the lessons themselves, each from the same image. */
    private static void plansByAllRows() {
        SungSteps x = with(HARD_TUNE, PUPILS);
        for (int s = 0; s < 5; s++) {
            for (int n = 1; n <= 3; n++) {
                SungSteps y = with(HARD_TUNE, PUPILS);
                y.keep(0);
                int best = -1, first = 0;
                for (int row = 0; row < 1 << (2 * n); row++) {
                    y.goBack(0);
                    int points = 0;
                    for (int w = 1; w <= n; w++) points = y.lesson(s, row >> (2 * (n - w)) & 3);
                    if (points > best) {
                        best = points;
                        first = row;
                    }
                }
                Check.due("plan of " + s + " for " + n, x.plan(s, n, 0), best);
                for (int w = 1; w <= n; w++) Check.due("week " + w, x.plan(s, n, w), first >> (2 * (n - w)) & 3);
            }
        }
    }

    private static void planTellsTheFirst() {
        // Only the range is short, by two: memory and the others do nothing, so the rest is ear, and it comes first.
        SungSteps x = with("note 10;note 12;note 14;", "singer plain 0 50 0 40 10 12 20;");
        Check.due("four weeks", x.plan(0, 4, 0), 5);
        int[] row = {0, 0, 3, 3};
        for (int w = 1; w <= 4; w++) Check.due("week " + w, x.plan(0, 4, w), row[w - 1]);
        Check.due("one week is as good as none", x.plan(0, 1, 0), 3);
        Check.due("then the first", x.plan(0, 1, 1), 0);
        Check.due("two weeks", x.plan(0, 2, 1), 3);
        singerIs(x, "nothing changes", 0, 0, 0, 0, 40, 10, 12, 0);
        x = with("note 10;note 12;note 14;", "singer plain 0 50 60 2 0 36 20;");
        Check.due("voice and memory", x.plan(0, 4, 0), 5);
        int[] other = {1, 1, 1, 2};
        for (int w = 1; w <= 4; w++) Check.due("week " + w, x.plan(0, 4, w), other[w - 1]);
        x.seed(8);
        x.plan(0, 4, 0);
        Check.due("no draws", x.seed(0), 8);
        Check.due("no song", x.told(4), SungSteps.NONE);
        Check.due("no notes", with("", "singer plain 0 50 60 2 0 36 20;").plan(0, 2, 0), 0);
    }

    private static void planRefuses() {
        SungSteps x = with("note 12;", "singer plain 50 50 60 20 5 30 20;");
        Check.due("singer 1", x.plan(1, 1, 0), SungSteps.UNKNOWN);
        Check.due("singer -1", x.plan(-1, 1, 0), SungSteps.UNKNOWN);
        Check.due("no week", x.plan(0, 0, 0), SungSteps.OUTSIDE);
        Check.due("five weeks", x.plan(0, 5, 0), SungSteps.OUTSIDE);
        Check.due("week 3 of 2", x.plan(0, 2, 3), SungSteps.OUTSIDE);
        Check.due("week -1", x.plan(0, 2, -1), SungSteps.OUTSIDE);
        Check.due("week 5", x.plan(0, 4, 5), SungSteps.OUTSIDE);
        Check.due("unknown ahead of outside", x.plan(1, 5, 9), SungSteps.UNKNOWN);
        Check.due("week 4 of 4", x.plan(0, 4, 4), 1);
        singerIs(x, "as it was", 0, 50, 0, 60, 20, 5, 30, 0);
    }

    private static void key(String tune, String singers, int steps, int count) {
        SungSteps x = with(tune, singers);
        Check.due("key of " + tune + singers, x.key(0), steps);
        Check.due("able of " + tune + singers, x.key(1), count);
    }

    private static void keys() {
        key("", "", 0, 0);
        key("note 12;", "", 0, 0);
        key("", "singer plain 0 50 0 1 5 9 20;", 0, 1);
        key("note 12;note 16;", "singer plain 0 50 0 1 12 16 20;", 0, 1);
        key("note 12;note 16;", "singer plain 0 50 0 1 12 15 20;", 0, 0);
        key("note 12;note 16;", "singer plain 0 50 0 1 14 18 20;", 2, 1);
        key("note 12;note 16;", "singer plain 0 50 0 1 9 13 20;", -3, 1);
        key("note 12;note 16;", "singer plain 0 50 0 1 0 4 20;", -12, 1);
        key("note 20;note 24;", "singer plain 0 50 0 1 32 36 20;", 12, 1);
        key("note 13;note 16;", "singer plain 0 50 0 1 0 3 20;", 0, 0);
        key("note 19;", "singer plain 0 50 0 1 32 36 20;", 0, 0);
        SungSteps x = with("note 12;", "singer plain 0 50 0 1 13 14 20;");
        Check.due("up", x.key(0), 1);
        x.lesson(0, 3);
        Check.due("as it has become", x.key(0), 0);
        Check.due("what 2", x.key(2), SungSteps.OUTSIDE);
        Check.due("what -1", x.key(-1), SungSteps.OUTSIDE);
    }

    private static void keyOfLikeOnes() {
        String low = "singer plain 0 50 0 1 8 11 20;", high = "singer true 0 50 0 1 13 16 20;";
        key("note 12;", low + high, -1, 1);
        key("note 12;", high + low, -1, 1);
        key("note 12;", low + high + "singer deaf 0 50 0 1 14 14 20;", 2, 2);
        key("note 12;", "singer plain 0 50 0 1 8 10 20;" + high, 1, 1);
        key("note 12;", low + low + high, -1, 2);
    }

    private static void keyLeavesOut() {
        key("note 12;note 17;", "singer narrow 0 50 0 1 12 36 20;", 0, 1);
        key("note 12;note 18;", "singer narrow 0 50 0 1 12 36 20;", 0, 0);
        key("note 12;note 17;", "singer narrow 0 50 0 1 10 36 20;", -2, 1);
        key("note 12;note 17;", "singer narrow 0 50 0 1 12 16 20;", 0, 0);
        key("note 12;", "singer growling 0 50 0 1 12 36 20;singer hushed 0 50 0 1 12 36 20;", 0, 0);
        key("", "singer growling 0 50 0 1 12 36 20;singer hushed 0 50 0 1 12 36 20;", 0, 0);
        key("note 12;", "singer growling 0 50 0 1 12 36 20;singer short 0 50 0 1 20 36 20;", 8, 1);
    }

    /** By the lessons themselves, year by year. */
    private static void agesByLessons() {
        for (int s = 0; s < 5; s++) {
            SungSteps x = with(HARD_TUNE, PUPILS), y = with(HARD_TUNE, PUPILS);
            int most = 2 * 9 - 1, years = SungSteps.NONE;
            int points = -1;
            for (int year = 1; year <= 30 && years == SungSteps.NONE; year++) {
                for (int part = 0; part < 4; part++) points = y.lesson(s, part);
                if (points == most) years = year;
            }
            Check.due("age of " + s, x.age(s), years);
        }
    }

    private static void age(String tune, String singer, int years) {
        SungSteps x = with(tune, singer);
        Check.due("age by " + tune + singer, x.age(0), years);
        Check.due("and again", x.age(0), years);
        Check.due("no draws", x.seed(0), 0);
        Check.due("no song", x.told(4), SungSteps.NONE);
    }

    private static void agesByHand() {
        age("note 12;", "singer plain 0 50 0 1 0 36 20;", 0);
        age("", "singer true 0 50 0 1 0 36 20;", SungSteps.NONE);
        age("note 12;", "singer hushed 0 50 0 1 0 36 20;", SungSteps.NONE);
        age("note 12;", "singer growling 0 50 0 1 12 36 20;", 0);
        age("note 12;", "singer growling 0 50 0 1 15 36 20;", 3);
        age("note 12;", "singer growling 0 50 0 1 11 36 20;", SungSteps.NONE);
        age("note 36;", "singer true 0 50 0 1 0 6 20;", 30);
        age("note 36;", "singer true 0 50 0 1 0 5 20;", SungSteps.NONE);
        age("note 12;", "singer plain 0 99 99 1 0 36 20;", 3);
        age("note 12;note 14;note 16;note 18;", "singer plain 0 50 0 1 0 36 20;", 2);
        age("note 12;note 14;note 12;", "singer plain 0 50 26 40 0 36 20;", 1);
        age("note 12;note 14;note 12;", "singer drifting 0 50 0 40 0 36 40;", SungSteps.NONE);
        SungSteps x = with("note 12;note 14;", "singer plain 0 50 60 1 0 36 20;");
        Check.due("singer 1", x.age(1), SungSteps.UNKNOWN);
        Check.due("singer -1", x.age(-1), SungSteps.UNKNOWN);
        x.age(0);
        singerIs(x, "as it was", 0, 0, 0, 60, 1, 0, 36, 0);
    }
}
