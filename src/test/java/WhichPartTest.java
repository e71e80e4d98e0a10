/** Promises 17 to 23: weigh, result, forget, odds, next, left, alike. */
public final class WhichPartTest {
    public static void main(String[] args) {
        weighs();
        results();
        forgets();
        oddsByHand();
        oddsAtTheirGreatest();
        nextByGreatest();
        nextOfLikeOnes();
        leftByHand();
        leftIsAdaptive();
        leftOfSixTasks();
        leftRefuses();
        alikeTypes();
        Check.end("WhichPartTest");
    }

    private static SungSteps with(String tasks) {
        SungSteps x = new SungSteps();
        Check.holds("tasks " + tasks, Check.tasks(x, tasks) >= 0);
        return x;
    }

    private static void weighs() {
        SungSteps x = with("");
        Check.due("was", x.weigh(0, 99), 1);
        Check.due("was", x.weigh(0, 0), 99);
        Check.due("was", x.weigh(15, 7), 1);
        Check.due("odds", x.odds(15), 7);
        Check.due("all", x.odds(-1), 14 + 7);
        Check.due("type 16", x.weigh(16, 1), SungSteps.UNKNOWN);
        Check.due("type -1", x.weigh(-1, 1), SungSteps.UNKNOWN);
        Check.due("100", x.weigh(0, 100), SungSteps.OUTSIDE);
        Check.due("-1", x.weigh(0, -1), SungSteps.OUTSIDE);
        Check.due("unknown ahead of outside", x.weigh(16, 100), SungSteps.UNKNOWN);
        Check.due("nothing changed", x.odds(-1), 21);
    }

    private static void results() {
        SungSteps x = with("task 1 0 0;task 1 0 0;task 1 0 0;");
        Check.due("one", x.result(1, true), 1);
        Check.due("two", x.result(2, false), 2);
        Check.due("again", x.result(1, false), SungSteps.NOT);
        Check.due("again", x.result(2, true), SungSteps.NOT);
        Check.due("task 3", x.result(3, true), SungSteps.UNKNOWN);
        Check.due("task -1", x.result(-1, true), SungSteps.UNKNOWN);
        Check.due("done", x.told(7), 6);
        Check.due("passed", x.told(8), 2);
        Check.due("three", x.result(0, true), 3);
        Check.due("passed", x.told(8), 3);
    }

    private static void forgets() {
        SungSteps x = with("task 1 10 0;task 1 0 0;");
        Check.due("none", x.forget(), 0);
        x.result(0, true);
        x.result(1, false);
        x.weigh(0, 5);
        Check.due("two", x.forget(), 2);
        Check.due("done", x.told(7), 0);
        Check.due("passed", x.told(8), 0);
        Check.due("weights stay", x.odds(0), 5);
        Check.due("may be done again", x.result(0, false), 1);
        Check.due("odds", x.odds(0), 50);
    }

    private static void oddsByHand() {
        SungSteps x = with("task 5 10 20 ear;task 3 1 2 voice,memory;task 2 40 30;");
        for (int type = 0; type < 16; type++) Check.due("at first", x.odds(type), 1);
        x.result(0, true);
        Check.due("has the ear", x.odds(0), 90);
        Check.due("lacks it", x.odds(1), 20);
        Check.due("lacks another", x.odds(14), 90);
        Check.due("all", x.odds(-1), 8 * 90 + 8 * 20);
        x.result(1, false);
        Check.due("has all", x.odds(0), 90 * 1);
        Check.due("lacks voice", x.odds(2), 90 * 98);
        Check.due("lacks memory and ear", x.odds(5), 20 * 98);
        Check.due("lacks range", x.odds(8), 90 * 1);
        x.result(2, true);
        Check.due("a task without parts", x.odds(0), 90 * 60);
        Check.due("all have all of none", x.odds(15), 20 * 98 * 60);
        x.weigh(15, 10);
        Check.due("weighed", x.odds(15), 10L * 20 * 98 * 60);
        Check.due("type 16", x.odds(16), SungSteps.UNKNOWN);
        Check.due("type -2", x.odds(-2), SungSteps.UNKNOWN);
        Check.due("least", x.odds(Integer.MIN_VALUE), SungSteps.UNKNOWN);
    }

    private static void oddsAtTheirGreatest() {
        SungSteps x = with(Check.times("task 1 0 0;", 6));
        for (int type = 0; type < 16; type++) x.weigh(type, 99);
        for (int t = 0; t < 6; t++) x.result(t, true);
        Check.due("one", x.odds(3), 99_000_000_000_000L);
        Check.due("all", x.odds(-1), 1_584_000_000_000_000L);
        Check.due("sixteen alike", x.left(6), 0);
        Check.due("never", x.left(7), SungSteps.NONE);
    }

    private static void nextByGreatest() {
        // With like weights: sure of ear 100 + 100, with slips 90 + 80, without parts 60 + 40.
        SungSteps x = with("task 9 40 0;task 9 10 20 ear;task 9 0 0 ear;");
        Check.due("the surest", x.next(), 2);
        x.result(2, true);
        Check.due("now passed ones are 100: 90 + 10 or 60 + 40, the first", x.next(), 0);
        x.result(0, true);
        Check.due("what is left", x.next(), 1);
        x.result(1, true);
        Check.due("none", x.next(), SungSteps.NONE);
        x = with("task 1 0 0 ear;task 1 0 0 voice;");
        x.weigh(0, 50);
        x.weigh(2, 40);
        Check.due("the heavy two are parted by the voice", x.next(), 1);
        Check.due("nothing changed", x.told(7), 0);
    }

    private static void nextOfLikeOnes() {
        SungSteps x = with("task 9 0 0 ear;task 8 0 0 voice;task 8 0 0 range;task 7 1 0 ear;");
        Check.due("fewest minutes of the like", x.next(), 1);
        x.result(1, true);
        Check.due("then the other", x.next(), 2);
        for (int type = 0; type < 16; type++) x.weigh(type, 0);
        Check.due("all are 0: fewest minutes", x.next(), 3);
        Check.due("no tasks", with("").next(), SungSteps.NONE);
    }

    private static void leftByHand() {
        SungSteps x = with("task 5 0 0 ear;task 3 0 0 voice;task 7 0 0 memory;task 11 0 0 range;");
        Check.due("all four", x.left(100), 26);
        Check.due("one of eight: the cheapest", x.left(12), 3);
        Check.due("one of four", x.left(25), 8);
        Check.due("one of two", x.left(50), 15);
        Check.due("one of two is not enough", x.left(51), 26);
        Check.due("one of 16", x.left(6), 0);
        Check.due("one of 16 is not 7", x.left(7), 3);
        x.result(3, true);
        Check.due("three are left", x.left(100), 15);
        Check.due("results stay", x.told(7), 8);
        for (int type = 1; type < 16; type++) x.weigh(type, 0);
        Check.due("known", x.left(100), 0);
        x.weigh(0, 0);
        Check.due("all are 0", x.left(100), 0);
        x = with("task 5 0 0 ear;task 3 0 0 voice;task 7 0 0 memory;");
        Check.due("no task tells the range", x.left(100), SungSteps.NONE);
        Check.due("but one of two", x.left(50), 15);
    }

    private static void leftIsAdaptive() {
        // Weights on 0 (has all), 1 (lacks ear), 3 (lacks ear and voice): who passes by ear is known at once,
        // who fails needs the voice too; voice first is the other way round.
        SungSteps x = with("task 5 0 0 ear;task 2 0 0 voice;task 30 0 0 ear,voice;");
        for (int type = 0; type < 16; type++) x.weigh(type, type == 0 || type == 1 || type == 3 ? 1 : 0);
        Check.due("both at worst", x.left(100), 7);
        x.weigh(3, 0);
        Check.due("the ear alone", x.left(100), 5);
        x.weigh(3, 1);
        x.weigh(1, 0);
        Check.due("the voice is cheaper", x.left(100), 2);
        // By the ear alone who passes may yet lack the voice; by the voice alone who passes may yet lack the ear.
        x = with("task 5 0 0 ear;");
        for (int type = 0; type < 16; type++) x.weigh(type, type == 0 || type == 1 || type == 2 ? 1 : 0);
        Check.due("never, if it is passed", x.left(100), SungSteps.NONE);
        x.weigh(0, 0);
        x.weigh(3, 1);
        Check.due("never, if it is failed", x.left(100), SungSteps.NONE);
        x = with("task 30 0 0 range;task 5 0 0 ear;task 4 0 0 voice;");
        for (int type = 0; type < 16; type++) x.weigh(type, type < 4 ? 1 : 0);
        Check.due("both, in vain the range", x.left(100), 9);
        // A task with slips never makes sure; the dear one does.
        x = with("task 1 1 0 ear;task 30 0 0 ear;");
        for (int type = 2; type < 16; type++) x.weigh(type, 0);
        Check.due("the dear one is sure", x.left(100), 30);
        // Passed 99 to 0, failed 1 to 100: 99 of a hundred in the worst case.
        Check.due("the cheap one is sure enough", x.left(99), 1);
    }

    /** The plain search, through all orders and results. */
    private static int fewest(int[][] tasks, long[] odds, int done, int q) {
        long all = 0, most = 0;
        for (long one : odds) {
            all += one;
            most = Math.max(most, one);
        }
        if (most * 100 >= q * all) return 0;
        int best = 1000000;
        for (int t = 0; t < tasks.length; t++) {
            if ((done >> t & 1) == 1) continue;
            long[] passed = new long[16], failed = new long[16];
            for (int type = 0; type < 16; type++) {
                int passes = (tasks[t][3] & type) == 0 ? 100 - tasks[t][1] : tasks[t][2];
                passed[type] = odds[type] * passes;
                failed[type] = odds[type] * (100 - passes);
            }
            int worst = Math.max(fewest(tasks, passed, done | 1 << t, q), fewest(tasks, failed, done | 1 << t, q));
            best = Math.min(best, tasks[t][0] + worst);
        }
        return best;
    }

    private static void leftOfSixTasks() {
        String[] names = {"ear", "voice", "memory", "range"};
        int[][] tasks = {{13, 5, 7, 1}, {8, 10, 3, 2}, {11, 0, 9, 4}, {9, 12, 12, 8}, {5, 20, 25, 3}, {4, 30, 15, 12}};
        StringBuilder text = new StringBuilder();
        for (int[] task : tasks) {
            text.append("task ").append(task[0]).append(' ').append(task[1]).append(' ').append(task[2]);
            String sign = " ";
            for (int part = 0; part < 4; part++) {
                if ((task[3] >> part & 1) == 0) continue;
                text.append(sign).append(names[part]);
                sign = ",";
            }
            text.append(';');
        }
        SungSteps x = with(text.toString());
        long[] weights = {40, 9, 8, 1, 7, 0, 2, 0, 9, 1, 0, 0, 3, 0, 0, 1};
        for (int type = 0; type < 16; type++) x.weigh(type, (int) weights[type]);
        for (int q = 1; q <= 100; q += 3) {
            int minutes = fewest(tasks, weights, 0, q);
            Check.due("left " + q + " of six", x.left(q), minutes >= 1000000 ? SungSteps.NONE : minutes);
        }
    }

    private static void leftRefuses() {
        SungSteps x = with("");
        int[] bad = {0, -1, 101, Integer.MAX_VALUE};
        for (int q : bad) Check.due("left " + q, x.left(q), SungSteps.OUTSIDE);
        Check.due("left 1", x.left(1), 0);
        Check.due("left 100", x.left(100), SungSteps.NONE);
    }

    private static void alikeTypes() {
        SungSteps x = with("");
        for (int type = 0; type < 16; type++) Check.due("no tasks part none", x.alike(type), 65535);
        x = with("task 1 49 49;");
        Check.due("no parts part none", x.alike(7), 65535);
        x = with("task 1 0 0 ear,voice;");
        Check.due("who lacks none of both", x.alike(0), 1 | 1 << 4 | 1 << 8 | 1 << 12);
        Check.due("who lacks one", x.alike(1), 65535 - (1 | 1 << 4 | 1 << 8 | 1 << 12));
        Check.due("another", x.alike(8), x.alike(0));
        x = with("task 1 0 0 ear;task 1 0 0 voice;task 1 0 0 memory;task 1 0 0 range;");
        for (int type = 0; type < 16; type++) Check.due("all are parted", x.alike(type), 1 << type);
        Check.due("type 16", x.alike(16), SungSteps.UNKNOWN);
        Check.due("type -1", x.alike(-1), SungSteps.UNKNOWN);
    }
}
