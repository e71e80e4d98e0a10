/** Promises 1 to 10: a new object; feed, tune, singers, tasks, fault, told, note, singer, task. */
public final class TextsTest {
    private static final String TUNE = "note 12;note 14;breath;note 16;";
    private static final String SINGERS = "singer plain 20 60 10 5 5 30 18;singer hushed 0 0 99 40 0 36 40;";
    private static final String TASKS = "task 5 10 20 ear;task 30 0 49 range,voice;task 1 49 0;";

    public static void main(String[] args) {
        newObject();
        feedPacksBytes();
        feedRefuses();
        tuneReplaces();
        tuneBreaths();
        tuneFaults();
        singersReplace();
        singersFaults();
        singersKinds();
        tasksReplace();
        tasksFaults();
        blanks();
        faultsLeaveAllAsItWas();
        toldCounts();
        noteTells();
        singerTells();
        taskTells();
        Check.end("TextsTest");
    }

    private static SungSteps full() {
        SungSteps x = new SungSteps();
        Check.due("tune", Check.tune(x, TUNE), 3);
        Check.due("singers", Check.singers(x, SINGERS), 2);
        Check.due("tasks", Check.tasks(x, TASKS), 3);
        return x;
    }

    private static void newObject() {
        SungSteps x = new SungSteps();
        int[] first = {0, 0, 0, 0, SungSteps.NONE, 0, 0, 0, 0};
        for (int what = 0; what < first.length; what++) Check.due("new told " + what, x.told(what), first[what]);
        Check.due("new fault", x.fault(), SungSteps.NONE);
        Check.due("new note", x.note(0, 0), SungSteps.UNKNOWN);
        Check.due("new singer", x.singer(0, 0), SungSteps.UNKNOWN);
        Check.due("new task", x.task(0, 0), SungSteps.UNKNOWN);
        Check.due("new sing", x.sing(0, 0), SungSteps.UNKNOWN);
        Check.due("new height", x.height(0), SungSteps.UNKNOWN);
        Check.due("new slid", x.slid(), SungSteps.NOT);
        Check.due("new score", x.score(0), SungSteps.NOT);
        Check.due("new calls", x.calls(), SungSteps.NOT);
        Check.due("new judge", x.judge(), SungSteps.NOT);
        Check.due("new result", x.result(0, true), SungSteps.UNKNOWN);
        Check.due("new next", x.next(), SungSteps.NONE);
        for (int type = 0; type < 16; type++) Check.due("new odds", x.odds(type), 1);
        Check.due("new seed", x.seed(0), 0);
        Check.due("new goBack 0", x.goBack(0), SungSteps.NOT);
        Check.due("new goBack 1", x.goBack(1), SungSteps.NOT);
        Check.due("new ends", x.ends(0), SungSteps.NOT);
        Check.due("new tear", x.tear(), 0);
        Check.due("new part", x.part(), 0);
        Check.due("new forget", x.forget(), 0);
        Check.due("empty tune", x.tune(), 0);
        Check.due("empty singers", x.singers(), 0);
        Check.due("empty tasks", x.tasks(), 0);
        Check.due("no fault", x.fault(), SungSteps.NONE);
    }

    private static void feedPacksBytes() {
        SungSteps x = new SungSteps();
        // Only the lowest n bytes count; what stands above them does not.
        Check.due("feed 4", x.feed(4, 0x7878_7878_6e6f_7465L), 4);
        Check.due("feed 1", x.feed(1, 0xffff_ff37L), 5);
        Check.due("feed 1", x.feed(1, ';'), 6);
        Check.due("tune", x.tune(), 1);
        Check.due("due", x.note(0, 0), 700);
        Check.due("feed 8", x.feed(8, 0x6e6f_7465_2031_323bL), 8);
        Check.due("tune", x.tune(), 1);
        Check.due("due", x.note(0, 0), 1200);
        Check.due("feed negative long", x.feed(8, -1L), 8);
        Check.due("bytes of 255 are nothing", x.tune(), -11);
        Check.due("at the first", x.fault(), 0);
    }

    private static void feedRefuses() {
        SungSteps x = new SungSteps();
        int[] bad = {0, -1, 9, Integer.MIN_VALUE, Integer.MAX_VALUE};
        for (int n : bad) Check.due("feed " + n, x.feed(n, 0), SungSteps.OUTSIDE);
        for (int k = 0; k < 49; k++) x.feed(8, 0x2020202020202020L);
        Check.due("392 bytes", x.told(3), 392);
        Check.due("feed 7", x.feed(7, 0x20202020202020L), 399);
        Check.due("two are too many", x.feed(2, 0x2020L), SungSteps.FULL);
        Check.due("nothing came", x.told(3), 399);
        Check.due("one fits", x.feed(1, 32), 400);
        Check.due("full", x.feed(1, 32), SungSteps.FULL);
        Check.due("outside ahead of full", x.feed(9, 32), SungSteps.OUTSIDE);
        Check.due("still 400", x.told(3), 400);
        Check.due("blanks alone", x.tune(), 0);
        Check.due("empty then", x.told(3), 0);
    }

    private static void tuneReplaces() {
        SungSteps x = full();
        x.sing(0, 2);
        x.write(5);
        x.keep(0);
        x.keep(1);
        x.result(0, true);
        x.weigh(3, 9);
        x.seed(77);
        x.join(4);
        x.lesson(0, 0);
        int ear = x.singer(0, 1);
        Check.due("tune", Check.tune(x, "note 3;"), 1);
        Check.due("notes", x.told(0), 1);
        Check.due("text is empty", x.told(3), 0);
        Check.due("no song", x.told(4), SungSteps.NONE);
        Check.due("no song", x.height(0), SungSteps.NOT);
        Check.due("no book", x.told(5), 0);
        Check.due("no image", x.goBack(0), SungSteps.NOT);
        Check.due("no image", x.goBack(1), SungSteps.NOT);
        Check.due("singers stay", x.told(1), 2);
        Check.due("as they became", x.singer(0, 1), ear);
        Check.due("results stay", x.told(7), 1);
        Check.due("weights stay", x.weigh(3, 9), 9);
        Check.due("the seed stays", x.seed(77), 77);
        Check.due("the crowd stays", x.told(6), 1);
        Check.due("no tune", x.tune(), 0);
        Check.due("no notes", x.told(0), 0);
    }

    private static void tuneBreaths() {
        SungSteps x = new SungSteps();
        Check.due("tune", Check.tune(x, "note 0;breath;breath;note 36;note 1;breath;"), 3);
        Check.due("no breath", x.note(0, 1), 0);
        Check.due("two are one", x.note(1, 1), 1);
        Check.due("the next alone", x.note(2, 1), 0);
        Check.due("a breath ahead of nothing is forgotten", Check.tune(x, "note 1;"), 1);
        Check.due("no breath", x.note(0, 1), 0);
        Check.due("breaths alone", Check.tune(x, "breath;breath;"), 0);
        Check.due("40 notes", Check.tune(x, Check.times("note0;", 40) + "breath;"), 40);
    }

    private static void tuneFault(String text, int number, int at) {
        SungSteps x = new SungSteps();
        Check.due("tune '" + text + "'", Check.tune(x, text), -10 - number);
        Check.due("fault '" + text + "'", x.fault(), at);
    }

    private static void tuneFaults() {
        tuneFault("note 37;", 2, 5);
        tuneFault("note 0000;", 2, 5);
        tuneFault("note  1234567890123;", 2, 6);
        tuneFault("note 999;", 2, 5);
        tuneFault("notes 5;", 1, 0);
        tuneFault(" not 5;", 1, 1);
        tuneFault("Note 5;", 1, 0);
        tuneFault("nOte 5;", 1, 0);
        tuneFault("no te 5;", 1, 0);
        tuneFault("notebreath;", 1, 0);
        tuneFault("note;", 1, 4);
        tuneFault("note", 1, 4);
        tuneFault("note  ", 1, 6);
        tuneFault("note 5", 1, 6);
        tuneFault("note 5 5;", 1, 7);
        tuneFault("note 5x;", 1, 6);
        tuneFault("note 5,", 1, 6);
        tuneFault("note -5;", 1, 5);
        tuneFault("note x;", 1, 5);
        tuneFault("note 5;;", 1, 7);
        tuneFault(";", 1, 0);
        tuneFault("5;", 1, 0);
        tuneFault("12345;", 1, 0);
        tuneFault("breath 5;", 1, 7);
        tuneFault("breath breath;", 1, 7);
        tuneFault("breath", 1, 6);
        tuneFault("note 1;\tnote 2;", 1, 7);
        tuneFault("note 1;\nnote 2;", 1, 7);
        tuneFault("note 1;\u00e9", 1, 7);
        tuneFault("note 1;note 37;note x;", 2, 12);
        tuneFault("note 1;singer plain 1 1 1 1 1 1 1;", 1, 7);
        tuneFault(Check.times("note0;", 40) + "note0;", 3, 240);
        tuneFault(Check.times("note0;", 40) + " note99", 3, 241);
        tuneFault(Check.times("note0;", 40) + "notes0;", 1, 240);
        tuneFault(Check.times("note0;", 40) + "breath;note;", 3, 247);
    }

    private static void singersReplace() {
        SungSteps x = full();
        x.sing(0, 2);
        x.write(5);
        x.keep(0);
        x.result(0, false);
        Check.due("singers", Check.singers(x, "singer deaf 1 2 3 4 5 6 7;"), 1);
        Check.due("singers", x.told(1), 1);
        Check.due("no song", x.told(4), SungSteps.NONE);
        Check.due("no book", x.told(5), 0);
        Check.due("no image", x.goBack(0), SungSteps.NOT);
        Check.due("the tune stays", x.told(0), 3);
        Check.due("results stay", x.told(7), 1);
        Check.due("kind", x.singer(0, 0), 6);
        Check.due("the second is gone", x.singer(1, 0), SungSteps.UNKNOWN);
        Check.due("twelve", Check.singers(x, Check.times("singer true0 0 0 1 0 0 0;", 12)), 12);
        Check.due("the twelfth", x.singer(11, 0), 1);
        Check.due("none", x.singers(), 0);
        Check.due("nobody", x.told(1), 0);
    }

    private static void singersFault(String text, int number, int at) {
        SungSteps x = new SungSteps();
        Check.due("singers '" + text + "'", Check.singers(x, text), -10 - number);
        Check.due("fault '" + text + "'", x.fault(), at);
    }

    private static void singersFaults() {
        singersFault("singer loud 1 1 1 1 1 1 1;", 1, 7);
        singersFault("singer plain 100 1 1 1 1 1 1;", 2, 13);
        singersFault("singer plain 1 100 1 1 1 1 1;", 2, 15);
        singersFault("singer plain 1 1 100 1 1 1 1;", 2, 17);
        singersFault("singer plain 1 1 1 0 1 1 1;", 2, 19);
        singersFault("singer plain 1 1 1 41 1 1 1;", 2, 19);
        singersFault("singer plain 1 1 1 1 37 1 1;", 2, 21);
        singersFault("singer plain 1 1 1 1 1 37 1;", 2, 23);
        singersFault("singer plain 1 1 1 1 1 1 41;", 2, 25);
        singersFault("singer plain 1 1 1 1 5 4 1;", 4, 23);
        singersFault("singer plain 1 1 1 1 5 0004 1;", 2, 23);
        singersFault("singer plain 1 1 1 1 5 4 x;", 4, 23);
        singersFault("singer plain 1 1 1 1 1 1;", 1, 24);
        singersFault("singer plain 1 1 1 1 1 1 1 1;", 1, 27);
        singersFault("singer plain 1 1 1 1 1 1 1", 1, 26);
        singersFault("singer 1 1 1 1 1 1 1 1;", 1, 7);
        singersFault("singerplain 1 1 1 1 1 1 1;", 1, 0);
        singersFault("singer plaintrue 1 1 1 1 1 1 1;", 1, 7);
        singersFault("note 5;", 1, 0);
        singersFault("singer true 1 1 1 1 1 1 1;task 1 1 1;", 1, 26);
        singersFault(Check.times("singer true0 0 0 1 0 0 0;", 12) + "singer", 3, 300);
        singersFault(Check.times("singer true0 0 0 1 0 0 0;", 12) + "sing", 1, 300);
        singersFault(Check.times("singer true0 0 0 1 0 0 0;", 12) + " ;", 1, 301);
    }

    private static void singersKinds() {
        String[] kinds = {"plain", "true", "drifting", "narrow", "growling", "short", "deaf", "hushed"};
        for (int kind = 0; kind < kinds.length; kind++) {
            SungSteps x = new SungSteps();
            Check.due(kinds[kind], Check.singers(x, "singer " + kinds[kind] + " 0 0 0 1 0 0 0;"), 1);
            Check.due(kinds[kind], x.singer(0, 0), kind);
        }
    }

    private static void tasksReplace() {
        SungSteps x = full();
        x.sing(0, 2);
        x.write(5);
        x.result(0, true);
        x.result(1, false);
        x.weigh(2, 50);
        x.keep(1);
        Check.due("tasks", Check.tasks(x, "task 1 2 3;"), 1);
        Check.due("tasks", x.told(2), 1);
        Check.due("no results", x.told(7), 0);
        Check.due("none passed", x.told(8), 0);
        Check.due("no image", x.goBack(1), SungSteps.NOT);
        Check.due("the song stays", x.told(4), 0);
        Check.due("the book stays", x.told(5), 1);
        Check.due("weights stay", x.weigh(2, 50), 50);
        Check.due("six", Check.tasks(x, Check.times("task1 0 0;", 6)), 6);
        Check.due("none", x.tasks(), 0);
        Check.due("no tasks", x.told(2), 0);
    }

    private static void tasksFault(String text, int number, int at) {
        SungSteps x = new SungSteps();
        Check.due("tasks '" + text + "'", Check.tasks(x, text), -10 - number);
        Check.due("fault '" + text + "'", x.fault(), at);
    }

    private static void tasksFaults() {
        tasksFault("task 0 1 1;", 2, 5);
        tasksFault("task 31 1 1;", 2, 5);
        tasksFault("task 1 50 1;", 2, 7);
        tasksFault("task 1 1 50;", 2, 9);
        tasksFault("task 1 1 0001;", 2, 9);
        tasksFault("task 1 1 1 nose;", 1, 11);
        tasksFault("task 1 1 1 ear,ear;", 4, 15);
        tasksFault("task 1 1 1 ear,voice,memory,range,voice;", 4, 34);
        tasksFault("task 1 1 1 ear,voice,memory,range,nose;", 1, 34);
        tasksFault("task 1 1 1 ear,;", 1, 15);
        tasksFault("task 1 1 1 ,ear;", 1, 11);
        tasksFault("task 1 1 1 ear voice;", 1, 15);
        tasksFault("task 1 1 1 ear 1;", 1, 15);
        tasksFault("task 1 1 1 ear,1;", 1, 15);
        tasksFault("task 1 1 1 1;", 1, 11);
        tasksFault("task 1 1 1 earvoice;", 1, 11);
        tasksFault("task 1 1;", 1, 8);
        tasksFault("task 1 1 ear;", 1, 9);
        tasksFault("task 1 1 1", 1, 10);
        tasksFault("task 1 1 1 ear", 1, 14);
        tasksFault("task 1 1 1 ear,", 1, 15);
        tasksFault("task ear;", 1, 5);
        tasksFault("task", 1, 4);
        tasksFault("tasks 1 1 1;", 1, 0);
        tasksFault(Check.times("task1 0 0;", 6) + "task", 3, 60);
        tasksFault(Check.times("task1 0 0;", 6) + "tas", 1, 60);
        tasksFault(Check.times("task1 0 0;", 6) + "  task1 0 0;", 3, 62);
    }

    private static void blanks() {
        SungSteps x = new SungSteps();
        Check.due("many blanks", Check.tune(x, "  note   036  ;  breath  ;note0;  "), 2);
        Check.due("three figures", x.note(0, 0), 3600);
        Check.due("no blank by a sign", Check.singers(x, "singer plain1 2 3 4 5 6 7;singer true 0 0 0 1 0 0 0 ;"), 2);
        Check.due("ear", x.singer(0, 1), 1);
        Check.due("parts", Check.tasks(x, " task 1 2 3ear , voice;task 1 0 0range;"), 2);
        Check.due("two parts", x.task(0, 3), 3);
        Check.due("one part", x.task(1, 3), 8);
    }

    private static void faultsLeaveAllAsItWas() {
        SungSteps x = full();
        x.sing(0, 2);
        x.write(5);
        x.keep(0);
        x.result(2, true);
        Check.due("tune", Check.tune(x, "note 1;note 2;note 3;note 4;note 99;"), -12);
        Check.due("at", x.fault(), 33);
        Check.due("the text is empty", x.told(3), 0);
        Check.due("singers", Check.singers(x, "singer deaf 9 9 9 9 9 9 9;singer"), -11);
        Check.due("at", x.fault(), 32);
        Check.due("the text is empty", x.told(3), 0);
        Check.due("tasks", Check.tasks(x, "task 9 9 9;task 99"), -12);
        Check.due("at", x.fault(), 16);
        Check.due("the text is empty", x.told(3), 0);
        Check.due("notes", x.told(0), 3);
        Check.due("singers", x.told(1), 2);
        Check.due("tasks", x.told(2), 3);
        Check.due("song", x.told(4), 0);
        Check.due("book", x.told(5), 1);
        Check.due("results", x.told(7), 4);
        Check.due("note", x.note(0, 0), 1200);
        Check.due("singer", x.singer(0, 1), 20);
        Check.due("task", x.task(0, 0), 5);
        Check.due("image", x.goBack(0), 1);
        Check.due("the image of before", x.told(7), 0);
        Check.due("right again", Check.tune(x, TUNE), 3);
        Check.due("no fault now", x.fault(), SungSteps.NONE);
        Check.due("a fault", Check.tune(x, "x"), -11);
        Check.due("at", x.fault(), 0);
        x.told(0);
        Check.feed(x, TUNE);
        Check.due("feeding keeps the fault", x.fault(), 0);
    }

    private static void toldCounts() {
        SungSteps x = full();
        x.sing(1, 1);
        x.write(1);
        x.write(2);
        x.join(1);
        x.join(2);
        x.join(3);
        x.result(0, true);
        x.result(2, false);
        Check.feed(x, "abcde");
        int[] want = {3, 2, 3, 5, 1, 2, 3, 5, 1};
        for (int what = 0; what < want.length; what++) Check.due("told " + what, x.told(what), want[what]);
        Check.due("told 9", x.told(9), SungSteps.OUTSIDE);
        Check.due("told -1", x.told(-1), SungSteps.OUTSIDE);
        Check.due("told least", x.told(Integer.MIN_VALUE), SungSteps.OUTSIDE);
    }

    private static void noteTells() {
        SungSteps x = full();
        int[] due = {1200, 1400, 1600}, breath = {0, 0, 1};
        for (int k = 0; k < 3; k++) {
            Check.due("due " + k, x.note(k, 0), due[k]);
            Check.due("breath " + k, x.note(k, 1), breath[k]);
        }
        Check.due("note 3", x.note(3, 0), SungSteps.UNKNOWN);
        Check.due("note -1", x.note(-1, 0), SungSteps.UNKNOWN);
        Check.due("what 2", x.note(0, 2), SungSteps.OUTSIDE);
        Check.due("what -1", x.note(0, -1), SungSteps.OUTSIDE);
        Check.due("unknown ahead of outside", x.note(3, 2), SungSteps.UNKNOWN);
    }

    private static void singerTells() {
        SungSteps x = full();
        int[][] want = {{0, 20, 10, 10, 5, 5, 30, -2}, {7, 0, -50, 99, 40, 0, 36, 20}};
        for (int s = 0; s < 2; s++) {
            for (int what = 0; what < 8; what++) Check.due("singer " + s + " " + what, x.singer(s, what), want[s][what]);
        }
        Check.due("singer 2", x.singer(2, 0), SungSteps.UNKNOWN);
        Check.due("singer -1", x.singer(-1, 0), SungSteps.UNKNOWN);
        Check.due("what 8", x.singer(0, 8), SungSteps.OUTSIDE);
        Check.due("what -1", x.singer(0, -1), SungSteps.OUTSIDE);
        Check.due("unknown ahead of outside", x.singer(2, 8), SungSteps.UNKNOWN);
        x.lesson(0, 2);
        Check.due("as it has become", x.singer(0, 4), 7);
    }

    private static void taskTells() {
        SungSteps x = full();
        int[][] want = {{5, 10, 20, 1}, {30, 0, 49, 10}, {1, 49, 0, 0}};
        for (int t = 0; t < 3; t++) {
            for (int what = 0; what < 4; what++) Check.due("task " + t + " " + what, x.task(t, what), want[t][what]);
        }
        Check.due("task 3", x.task(3, 0), SungSteps.UNKNOWN);
        Check.due("task -1", x.task(-1, 0), SungSteps.UNKNOWN);
        Check.due("what 4", x.task(0, 4), SungSteps.OUTSIDE);
        Check.due("what -1", x.task(0, -1), SungSteps.OUTSIDE);
        Check.due("unknown ahead of outside", x.task(3, 4), SungSteps.UNKNOWN);
    }
}
