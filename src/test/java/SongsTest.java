/** Promises 11 to 16: sing, height, slid, score, calls, fooled. */
public final class SongsTest {
    public static void main(String[] args) {
        singRefuses();
        draws();
        models();
        rangeHolds();
        drifts();
        ears();
        memories();
        memoryAheadOfEar();
        quietKinds();
        songsWithoutNotes();
        heightRefuses();
        slidTells();
        scoresAtTheirEdges();
        scoresDisagree();
        oneNote();
        fooledByAHum();
        Check.end("SongsTest");
    }

    private static SungSteps with(String tune, String singers) {
        SungSteps x = new SungSteps();
        Check.holds("tune " + tune, Check.tune(x, tune) >= 0);
        Check.holds("singers " + singers, Check.singers(x, singers) >= 0);
        return x;
    }

    private static void heights(SungSteps x, String what, int... want) {
        for (int k = 0; k < want.length; k++) Check.due(what + ", height " + k, x.height(k), want[k]);
    }

    private static void singRefuses() {
        SungSteps x = with("note 12;note 14;", "singer plain 0 50 5 40 0 36 20;");
        x.seed(9);
        Check.due("sing 1", x.sing(1, 0), SungSteps.UNKNOWN);
        Check.due("sing -1", x.sing(-1, 0), SungSteps.UNKNOWN);
        Check.due("model 3", x.sing(0, 3), SungSteps.OUTSIDE);
        Check.due("model -1", x.sing(0, -1), SungSteps.OUTSIDE);
        Check.due("unknown ahead of outside", x.sing(1, 3), SungSteps.UNKNOWN);
        Check.due("no song came", x.told(4), SungSteps.NONE);
        Check.due("no draw was made", x.seed(9), 9);
        x.sing(0, 2);
        Check.due("sung by", x.told(4), 0);
        int first = x.height(0), seed = x.seed(3);
        Check.due("refused", x.sing(0, 3), SungSteps.OUTSIDE);
        Check.due("the song stays", x.height(0), first);
        Check.due("the seed stays", x.seed(seed), 3);
    }

    /* From 0 the seed becomes 12345, 1406932606, 654583775, 1449466924: draws 0, 21468, 9988, 22117 ahead of what is left over. */
    private static void draws() {
        SungSteps x = with("note 12;note 14;note 16;", "singer plain 0 50 10 40 0 36 20;singer plain 0 50 0 40 0 36 20;");
        Check.due("sing", x.sing(0, 2), 2);
        heights(x, "draws of 21", 1200 + 0 - 10, 1400 + 21468 % 21 - 10, 1600 + 9988 % 21 - 10);
        Check.due("three draws", x.seed(0), 654583775);
        Check.due("sing", x.sing(1, 2), 2);
        heights(x, "draws of 1", 1200, 1400, 1600);
        Check.due("spread 0 draws too", x.seed(0), 654583775);
        x.sing(0, 0);
        heights(x, "the start first", 1200 - 600 + 21468 % 21 - 10, 1400 - 600 + 9988 % 21 - 10, 1600 - 600 + 22117 % 21 - 10);
        Check.due("four draws", x.seed(2147483647), 1449466924);
        x.sing(1, 2);
        Check.due("the greatest seed", x.seed(0), afterDraws(2147483647L, 3));
    }

    private static long afterDraws(long seed, int n) {
        for (int k = 0; k < n; k++) seed = (seed * 1103515245L + 12345L) % 2147483648L;
        return seed;
    }

    private static void models() {
        SungSteps x = with("note 20;note 22;", "singer true 0 0 99 1 0 36 40;");
        boolean[] starts = new boolean[13];
        boolean low = false, right = false;
        for (int seed = 0; seed < 60; seed++) {
            x.seed(seed);
            x.sing(0, 0);
            int off = x.height(0) - 2000;
            Check.due("by the draw", off, 100 * (afterDraws(seed, 1) / 65536 % 13 - 6));
            Check.due("one draw", x.seed(seed), afterDraws(seed, 1));
            starts[off / 100 + 6] = true;
            Check.due("the step stays", x.height(1), 2200 + off);
            x.sing(0, 1);
            Check.due("an octave low, or right", x.height(0), 2000 + 1200 * (afterDraws(seed, 1) / 65536 % 2 - 1));
            Check.due("one draw", x.seed(seed), afterDraws(seed, 1));
            low |= x.height(0) == 800;
            right |= x.height(0) == 2000;
            x.sing(0, 2);
            Check.due("a voice", x.height(0), 2000);
            Check.due("no draw", x.seed(0), seed);
        }
        Check.holds("the piano is met at both heights", low && right);
        for (int k = 0; k < 13; k++) Check.holds("start " + k + " was met", starts[k]);
    }

    private static void rangeHolds() {
        String tune = "note 0;note 20;note 36;note 13;note 18;";
        SungSteps x = with(tune, "singer true 0 0 0 1 10 20 0;singer narrow 0 50 0 40 13 30 20;singer narrow 0 50 0 40 13 15 20;"
            + "singer plain 0 99 0 40 0 36 20;singer plain 0 0 0 40 0 36 20;");
        x.sing(0, 2);
        heights(x, "true", 1000, 2000, 2000, 1300, 1800);
        x.sing(1, 2);
        heights(x, "narrow from L on", 1300, 1800, 1800, 1300, 1800);
        x.sing(2, 2);
        heights(x, "narrow, H is nearer", 1300, 1500, 1500, 1300, 1500);
        x.sing(3, 2);
        heights(x, "lean 49", 49, 2049, 3600, 1349, 1849);
        x.sing(4, 2);
        heights(x, "lean -50", 0, 1950, 3550, 1250, 1750);
    }

    private static void drifts() {
        String tune = "note 12;note 14;note 14;note 12;";
        SungSteps x = with(tune, "singer plain 0 50 0 40 0 36 10;singer drifting 0 50 0 40 0 36 10;singer true 0 50 0 40 0 36 10;"
            + "singer plain 99 50 0 40 0 36 40;singer drifting 0 50 0 40 0 36 27;");
        x.sing(0, 2);
        heights(x, "plain", 1200, 1390, 1380, 1170);
        x.sing(1, 2);
        heights(x, "drifting counts twice", 1200, 1380, 1360, 1140);
        x.sing(2, 2);
        heights(x, "true has none", 1200, 1400, 1400, 1200);
        x.sing(3, 2);
        heights(x, "up", 1200, 1420, 1440, 1260);
        x.sing(4, 2);
        heights(x, "twice 7", 1200, 1414, 1428, 1242);
    }

    private static void ears() {
        String tune = "note 12;note 13;note 15;note 14;note 12;";
        SungSteps x = with(tune, "singer plain 49 50 0 40 0 36 20;singer plain 50 50 0 40 0 36 25;singer deaf 24 50 0 40 0 36 20;"
            + "singer deaf 25 50 0 40 0 36 20;singer deaf 75 50 0 40 0 36 25;singer true 99 50 0 40 0 36 20;");
        x.sing(0, 2);
        heights(x, "ear 49 hears a step", 1200, 1300, 1500, 1400, 1200);
        x.sing(1, 2);
        heights(x, "ear 50 does not, and drifts", 1200, 1205, 1410, 1415, 1220);
        x.sing(2, 2);
        heights(x, "deaf 24 hears a step", 1200, 1300, 1500, 1400, 1200);
        x.sing(3, 2);
        heights(x, "deaf 25 does not", 1200, 1200, 1400, 1400, 1200);
        x.sing(4, 2);
        heights(x, "deaf 75 hears no two steps", 1200, 1205, 1210, 1215, 1220);
        x.sing(5, 2);
        heights(x, "true hears all", 1200, 1300, 1500, 1400, 1200);
    }

    private static void memories() {
        String tune = "note 10;note 12;note 14;note 16;note 18;breath;note 20;note 22;note 24;note 26;";
        SungSteps x = with(tune, "singer plain 0 50 0 2 0 36 25;singer short 0 50 0 40 0 36 20;singer short 0 50 0 1 0 36 20;"
            + "singer true 0 50 0 1 0 36 20;singer plain 0 50 0 4 0 36 20;singer plain 99 50 0 2 0 36 25;");
        x.sing(0, 2);
        heights(x, "memory 2, no drift behind it", 1000, 1205, 1205, 1205, 1205, 1410, 1615, 1615, 1615);
        x.sing(1, 2);
        heights(x, "short has 3", 1000, 1200, 1400, 1400, 1400, 1600, 1800, 2000, 2000);
        x.sing(2, 2);
        heights(x, "short has less", 1000, 1000, 1000, 1000, 1000, 1200, 1200, 1200, 1200);
        x.sing(3, 2);
        heights(x, "true remembers all", 1000, 1200, 1400, 1600, 1800, 2000, 2200, 2400, 2600);
        x.sing(4, 2);
        heights(x, "memory 4", 1000, 1200, 1400, 1600, 1600, 1800, 2000, 2200, 2400);
        x.sing(5, 2);
        heights(x, "ear 99 hears two steps", 1000, 1205, 1205, 1205, 1205, 1410, 1615, 1615, 1615);
    }

    /** Steps that the ear does not take drift; past memory, where both rules hold, nothing moves. */
    private static void memoryAheadOfEar() {
        SungSteps x = with("note 10;note 11;note 12;note 13;breath;note 14;note 15;note 16;", "singer plain 50 50 0 2 0 36 25;");
        x.sing(0, 2);
        heights(x, "memory ahead of ear", 1000, 1005, 1005, 1005, 1010, 1015, 1015);
    }

    private static void quietKinds() {
        SungSteps x = with("note 12;note 14;note 12;", "singer growling 0 99 99 1 7 20 40;singer hushed 0 99 99 1 7 20 40;");
        x.seed(5);
        Check.due("growls", x.sing(0, 0), 0);
        heights(x, "growling", 700, 700, 700);
        Check.due("home", x.score(1), 0);
        Check.due("calls", x.calls(), 7);
        Check.due("slid", x.slid(), 0);
        Check.due("hushed", x.sing(1, 0), 0);
        heights(x, "hushed", SungSteps.NONE, SungSteps.NONE, SungSteps.NONE);
        Check.due("who", x.told(4), 1);
        for (int which = 0; which < 4; which++) Check.due("hushed score", x.score(which), 0);
        Check.due("hushed calls", x.calls(), 15);
        Check.due("hushed slid", x.slid(), 0);
        x.sing(1, 1);
        Check.due("no draws", x.seed(0), 5);
    }

    private static void songsWithoutNotes() {
        SungSteps x = with("", "singer plain 0 50 5 40 0 36 20;");
        x.seed(5);
        Check.due("sing nothing", x.sing(0, 0), 0);
        Check.due("who", x.told(4), 0);
        Check.due("no draws", x.seed(5), 5);
        for (int which = 0; which < 4; which++) Check.due("score", x.score(which), 0);
        Check.due("calls", x.calls(), 15);
        Check.due("slid", x.slid(), 0);
        Check.due("height", x.height(0), SungSteps.UNKNOWN);
    }

    private static void heightRefuses() {
        SungSteps x = with("note 12;note 14;", "singer true 0 50 0 40 0 36 20;");
        Check.due("no song", x.height(1), SungSteps.NOT);
        Check.due("unknown ahead of not", x.height(2), SungSteps.UNKNOWN);
        Check.due("slid", x.slid(), SungSteps.NOT);
        Check.due("score", x.score(0), SungSteps.NOT);
        Check.due("outside ahead of not", x.score(4), SungSteps.OUTSIDE);
        Check.due("calls", x.calls(), SungSteps.NOT);
        x.sing(0, 2);
        Check.due("height 2", x.height(2), SungSteps.UNKNOWN);
        Check.due("height -1", x.height(-1), SungSteps.UNKNOWN);
        Check.due("score 4", x.score(4), SungSteps.OUTSIDE);
        Check.due("score -1", x.score(-1), SungSteps.OUTSIDE);
    }

    private static void slidTells() {
        SungSteps x = with("note 12;note 14;note 12;note 10;", "singer plain 0 60 0 40 0 36 0;singer plain 0 60 0 40 0 36 40;");
        Check.due("steps are right", x.sing(0, 2), 3);
        Check.due("and end low", x.slid(), -60);
        Check.due("by end", x.score(3), 0);
        Check.due("homes 10, -10, -30, -50", x.score(1), 4);
        Check.due("wrong by end alone", x.calls(), 8);
        Check.due("up", x.sing(1, 2), 3);
        Check.due("slid up", x.slid(), 60);
    }

    /* LEAN and DRIFT alone move the homes here: 50 is within, 51 is not. */
    private static void scoresAtTheirEdges() {
        twoNotes("singer plain 0 99 0 40 0 36 21;", 49, 1, 1, 1, 2);
        twoNotes("singer plain 0 99 0 40 0 36 22;", 49, 2, 1, 1, 1);
        twoNotes("singer plain 0 0 0 40 0 36 20;", -50, 0, 1, 1, 2);
        twoNotes("singer plain 0 0 0 40 0 36 19;", -50, -1, 1, 1, 1);
        twoNotes("singer plain 0 50 0 40 0 36 40;", 0, 20, 1, 1, 2);
        twoNotes("singer plain 0 50 0 1 0 36 40;", 0, -200, 0, 0, 1);
        twoNotes("singer plain 0 50 0 40 12 12 20;", 0, -200, 0, 0, 1);
        SungSteps x = with("note 12;note 14;note 16;", "singer drifting 0 50 0 40 0 36 32;");
        Check.due("24 a step", x.sing(0, 2), 2);
        Check.due("48 in all", x.slid(), 48);
        Check.due("nothing wrong", x.calls(), 0);
        x = with("note 12;note 14;note 16;note 18;note 20;note 22;", "singer plain 0 50 0 40 0 36 30;");
        Check.due("10 a step", x.sing(0, 2), 5);
        Check.due("50 in all", x.slid(), 50);
        Check.due("50 is within", x.score(3), 1);
        Check.due("all homes", x.score(1), 6);
        Check.due("nothing wrong", x.calls(), 0);
        x = with("note 12;note 14;note 16;note 18;", "singer plain 0 50 0 40 0 36 37;");
        Check.due("17 a step", x.sing(0, 2), 3);
        Check.due("51 in all", x.slid(), 51);
        Check.due("51 is not", x.score(3), 0);
        Check.due("three homes", x.score(1), 3);
        Check.due("wrong by home and by end", x.calls(), 10);
        stepEdge(50, 1);
        stepEdge(51, 0);
    }

    /** The first seed whose two draws put a step off by so much. */
    private static void stepEdge(int difference, int right) {
        SungSteps x = with("note 12;note 14;", "singer plain 0 50 30 40 0 36 20;");
        boolean met = false;
        for (int seed = 0; seed < 460 && !met; seed++) {
            long one = afterDraws(seed, 1) / 65536 % 61, two = afterDraws(seed, 2) / 65536 % 61;
            if (Math.abs(two - one) != difference) continue;
            met = true;
            x.seed(seed);
            Check.due("a step off by " + difference, x.sing(0, 2), right);
            Check.due("score 0", x.score(0), right);
            Check.due("called wrong by steps", x.calls() & 1, 1 - right);
        }
        Check.holds("such a seed was met", met);
    }

    private static void twoNotes(String singer, int first, int slid, int steps, int end, int homes) {
        SungSteps x = with("note 12;note 14;", singer);
        Check.due(singer + " by steps", x.sing(0, 2), steps);
        Check.due(singer + " first home", x.height(0) - 1200, first);
        Check.due(singer + " slid", x.slid(), slid);
        Check.due(singer + " score 0", x.score(0), steps);
        Check.due(singer + " score 1", x.score(1), homes);
        Check.due(singer + " score 2", x.score(2), 1);
        Check.due(singer + " score 3", x.score(3), end);
        int wrong = (steps == 1 ? 0 : 1) + (homes == 2 ? 0 : 2) + (end == 1 ? 0 : 8);
        Check.due(singer + " calls", x.calls(), wrong);
    }

    private static void scoresDisagree() {
        SungSteps x = with("note 12;note 14;note 12;", "singer true 0 50 0 40 0 36 20;singer true 0 50 0 40 13 36 20;");
        x.seed(1);
        x.sing(0, 0);
        int off = x.height(0) - 1200;
        Check.holds("this seed starts elsewhere", off != 0);
        Check.due("by steps", x.score(0), 2);
        Check.due("by home", x.score(1), 0);
        Check.due("by start", x.score(2), 0);
        Check.due("by end", x.score(3), 1);
        Check.due("wrong by home and by start", x.calls(), 6);
        x.sing(1, 2);
        Check.due("by steps", x.score(0), 0);
        Check.due("by home", x.score(1), 1);
        Check.due("by start", x.score(2), 0);
        Check.due("by end", x.score(3), 1);
        Check.due("wrong by three", x.calls(), 7);
    }

    private static void oneNote() {
        SungSteps x = with("note 12;", "singer true 0 50 0 40 0 36 20;singer growling 0 50 0 40 0 36 20;");
        Check.due("no steps", x.sing(0, 2), 0);
        Check.due("nothing wrong", x.calls(), 0);
        Check.due("home", x.score(1), 1);
        Check.due("slid", x.slid(), 0);
        Check.due("no steps", x.sing(1, 2), 0);
        Check.due("by steps and by end it is right", x.calls(), 6);
    }

    private static void fooledByAHum() {
        SungSteps x = new SungSteps();
        Check.due("nothing", x.fooled(0), SungSteps.NONE);
        Check.due("nothing", x.fooled(1), 0);
        Check.due("what 2", x.fooled(2), SungSteps.OUTSIDE);
        Check.due("what -1", x.fooled(-1), SungSteps.OUTSIDE);
        fooled("note 0;", 0, 1);
        fooled("note 36;", 3550, 1);
        fooled("note 12;note 14;", 1150, 1);
        fooled("note 12;note 13;", 1250, 2);
        fooled("note 20;note 13;note 13;note 12;note 20;note 20;", 1250, 3);
        fooled("note 20;note 13;note 20;note 20;", 1950, 3);
        fooled("note 0;note 0;note 1;", 50, 3);
        fooled("note 1;note 1;note 3;", 50, 2);
        fooled("breath;", SungSteps.NONE, 0);
        fooled(Check.times("note7;", 40), 650, 40);
    }

    private static void fooled(String tune, int height, int count) {
        SungSteps x = with(tune, "");
        Check.due("fooled " + tune, x.fooled(0), height);
        Check.due("how many " + tune, x.fooled(1), count);
    }
}
