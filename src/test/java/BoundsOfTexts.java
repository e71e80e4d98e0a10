/** Part 1 of the terms and promises 1 to 10: texts and their faults, a new object, what is told. */
final class BoundsOfTexts {
    private static final int NONE = SungSteps.NONE, UNKNOWN = SungSteps.UNKNOWN, OUTSIDE = SungSteps.OUTSIDE, NOT = SungSteps.NOT,
        FULL = SungSteps.FULL;
    private static final int LEAST = Integer.MIN_VALUE, MOST = Integer.MAX_VALUE;

    private static final String FORTY = "note0;".repeat(40);
    private static final String TWELVE = "singer true0 0 0 1 0 0 0;".repeat(12);
    private static final String SIX = "task1 0 0;".repeat(6);
    private static final String[] KINDS = {"plain", "true", "drifting", "narrow", "growling", "short", "deaf", "hushed"};

    private BoundsOfTexts() {
    }

    private static String blanks(int n) {
        return " ".repeat(n);
    }

    private static void tuneIs(String text, int notes) {
        SungSteps x = new SungSteps();
        Check.due("tune '" + text + "'", Check.tune(x, text), notes);
        Check.due("no fault in '" + text + "'", x.fault(), NONE);
    }

    private static void tuneFault(String text, int number, int at) {
        SungSteps x = new SungSteps();
        Check.due("tune '" + text + "'", Check.tune(x, text), -10 - number);
        Check.due("fault of '" + text + "'", x.fault(), at);
    }

    private static void singersAre(String text, int count) {
        SungSteps x = new SungSteps();
        Check.due("singers '" + text + "'", Check.singers(x, text), count);
        Check.due("no fault in '" + text + "'", x.fault(), NONE);
    }

    private static void singersFault(String text, int number, int at) {
        SungSteps x = new SungSteps();
        Check.due("singers '" + text + "'", Check.singers(x, text), -10 - number);
        Check.due("fault of '" + text + "'", x.fault(), at);
    }

    private static void tasksAre(String text, int count) {
        SungSteps x = new SungSteps();
        Check.due("tasks '" + text + "'", Check.tasks(x, text), count);
        Check.due("no fault in '" + text + "'", x.fault(), NONE);
    }

    private static void tasksFault(String text, int number, int at) {
        SungSteps x = new SungSteps();
        Check.due("tasks '" + text + "'", Check.tasks(x, text), -10 - number);
        Check.due("fault of '" + text + "'", x.fault(), at);
    }

    /** A singer in which one of the seven numbers is another one: what is told of it then, or the fault at that number. */
    private static void singerNumber(int which, String number, int due) {
        String[] numbers = {"5", "50", "5", "5", "0", "36", "20"};
        numbers[which] = number;
        String text = "singer plain " + String.join(" ", numbers) + ";";
        SungSteps x = new SungSteps();
        int answer = Check.singers(x, text);
        if (due == OUTSIDE) {
            Check.due(text, answer, -12);
            int at = 13;
            for (int k = 0; k < which; k++) at += numbers[k].length() + 1;
            Check.due("fault of " + text, x.fault(), at);
        } else {
            Check.due(text, answer, 1);
            Check.due("told of " + text, x.singer(0, which + 1), due);
        }
    }

    // ---- part 1: tunes

    @Says("Part 1: A TUNE is told in a text (400 bytes at most)")
    static void t1_tuneOf400Bytes() {
        SungSteps x = new SungSteps();
        Check.due("the last clause of 400 bytes is read", Check.tune(x, blanks(393) + "note 7;"), 1);
        Check.due("it is the note", x.note(0, 0), 700);
        tuneFault(blanks(399) + "x", 1, 399);
        tuneFault("note" + blanks(396), 1, 400);
        Check.feed(x, blanks(392) + "note 7;");
        Check.due("399 bytes and two", x.feed(2, 0x2020), FULL);
        Check.due("the 400th", x.feed(1, 32), 400);
        Check.due("a 401st", x.feed(1, 32), FULL);
        Check.due("tune", x.tune(), 1);
    }

    @Says("Part 1: clauses 'note' S ';' (STEPS 0 .. 36 above the lowest tone; 40 NOTES at most)")
    static void t1_notesOf0To36Steps() {
        SungSteps x = new SungSteps();
        Check.due("0 and 36", Check.tune(x, "note 0;note 36;"), 2);
        Check.due("0", x.note(0, 0), 0);
        Check.due("36", x.note(1, 0), 3600);
        tuneFault("note 37;", 2, 5);
        tuneFault("note 0;note 37;", 2, 12);
        tuneFault("note 999;", 2, 5);
        tuneFault("note -1;", 1, 5);
    }

    @Says("Part 1: 40 NOTES at most)")
    static void t1_fortyNotes() {
        tuneIs("", 0);
        tuneIs("note0;", 1);
        tuneIs(FORTY, 40);
        tuneFault(FORTY + "note0;", 3, 240);
        SungSteps x = new SungSteps();
        Check.tune(x, FORTY.substring(6) + "note36;");
        Check.due("the fortieth", x.note(39, 0), 3600);
        Check.due("no 41st", x.note(40, 0), UNKNOWN);
    }

    @Says("Part 1: | 'breath' ';' (ahead of the next NOTE; several are one).")
    static void t1_breathsAheadOfTheNextNote() {
        SungSteps x = new SungSteps();
        Check.due("tune", Check.tune(x, "breath;note 1;note 2;breath;breath;breath;note 3;note 4;breath;"), 4);
        int[] breaths = {1, 0, 1, 0};
        for (int k = 0; k < 4; k++) Check.due("breath ahead of " + k, x.note(k, 1), breaths[k]);
        tuneIs("breath;", 0);
        tuneIs("breath;".repeat(57), 0);
        tuneIs(FORTY + "breath;breath;", 40);
        Check.due("a breath behind the last is ahead of nothing", Check.tune(x, "note 1;"), 1);
        Check.due("not of another tune's first note", x.note(0, 1), 0);
        for (int k = 0; k < 4; k++) {
            Check.due("with a breath", Check.tune(x, "breath;note 1;breath;"), 1);
            for (int again = 0; again < 2; again++) Check.due("without one", Check.tune(x, "note 1;"), 1);
            Check.due("no breath of an earlier tune", x.note(0, 1), 0);
        }
    }

    // ---- part 1: singers

    @Says("Part 1: SINGERS are told in a text (400 bytes at most): clauses 'singer' KIND E A B M L H D ';' (12 at most)")
    static void t1_twelveSingersIn400Bytes() {
        singersAre("", 0);
        singersAre(TWELVE, 12);
        singersAre(TWELVE + blanks(100), 12);
        singersFault(TWELVE + "singer true0 0 0 1 0 0 0;", 3, 300);
        singersFault(blanks(375) + "singer true0 0 0 1 0 0 41", 2, 398);
        singersAre(blanks(375) + "singer true0 0 0 1 0 0 0;", 1);
        SungSteps x = new SungSteps();
        Check.singers(x, TWELVE);
        Check.due("the twelfth", x.singer(11, 0), 1);
        Check.due("no 13th", x.singer(12, 0), UNKNOWN);
    }

    @Says("Part 1: KIND one of 'plain' 'true' 'drifting' 'narrow' 'growling' 'short' 'deaf' 'hushed', numbered so;")
    static void t1_eightKinds() {
        for (int kind = 0; kind < 8; kind++) {
            SungSteps x = new SungSteps();
            Check.due(KINDS[kind], Check.singers(x, "singer " + KINDS[kind] + " 0 0 0 1 0 0 0;"), 1);
            Check.due("number of " + KINDS[kind], x.singer(0, 0), kind);
            singersFault("singer " + KINDS[kind] + "s 0 0 0 1 0 0 0;", 1, 7);
            singersFault("singer " + KINDS[kind].substring(1) + " 0 0 0 1 0 0 0;", 1, 7);
            singersFault("singer " + KINDS[kind].substring(0, 3) + " 0 0 0 1 0 0 0;", 1, 7);
        }
        singersFault("singer 0 0 0 1 0 0 0;", 1, 7);
        singersFault("singer;", 1, 6);
    }

    @Says("Part 1: EAR E 0 .. 99;")
    static void t1_ear0To99() {
        singerNumber(0, "0", 0);
        singerNumber(0, "99", 99);
        singerNumber(0, "100", OUTSIDE);
        singerNumber(0, "999", OUTSIDE);
    }

    @Says("Part 1: LEAN A 0 .. 99, less 50;")
    static void t1_lean0To99Less50() {
        singerNumber(1, "0", -50);
        singerNumber(1, "50", 0);
        singerNumber(1, "99", 49);
        singerNumber(1, "100", OUTSIDE);
    }

    @Says("Part 1: SPREAD B 0 .. 99;")
    static void t1_spread0To99() {
        singerNumber(2, "0", 0);
        singerNumber(2, "99", 99);
        singerNumber(2, "100", OUTSIDE);
    }

    @Says("Part 1: MEMORY M 1 .. 40;")
    static void t1_memory1To40() {
        singerNumber(3, "1", 1);
        singerNumber(3, "40", 40);
        singerNumber(3, "0", OUTSIDE);
        singerNumber(3, "000", OUTSIDE);
        singerNumber(3, "41", OUTSIDE);
    }

    @Says("Part 1: RANGE from L to H, STEPS 0 .. 36 each, H not below L;")
    static void t1_range0To36() {
        singerNumber(4, "36", 36);
        singerNumber(4, "37", OUTSIDE);
        singerNumber(5, "0", 0);
        singerNumber(5, "37", OUTSIDE);
        singersAre("singer plain 0 0 0 1 0 0 0;", 1);
        singersAre("singer plain 0 0 0 1 36 36 0;", 1);
        singersAre("singer plain 0 0 0 1 17 18 0;", 1);
        singersFault("singer plain 0 0 0 1 18 17 0;", 4, 24);
        singersFault("singer plain 0 0 0 1 36 0 0;", 4, 24);
    }

    @Says("Part 1: DRIFT D 0 .. 40, less 20.")
    static void t1_drift0To40Less20() {
        singerNumber(6, "0", -20);
        singerNumber(6, "21", 1);
        singerNumber(6, "40", 20);
        singerNumber(6, "41", OUTSIDE);
    }

    // ---- part 1: tasks

    @Says("Part 1: TASKS are told in a text (400 bytes at most): clauses 'task' MIN P Q [PART {',' PART}] ';' (6 at most:")
    static void t1_sixTasksIn400Bytes() {
        tasksAre("", 0);
        tasksAre(SIX, 6);
        tasksAre(SIX + blanks(340), 6);
        tasksFault(SIX + "task1 0 0;", 3, 60);
        tasksAre(blanks(386) + "task1 0 0 ear;", 1);
        tasksFault(blanks(389) + "task1 0 0 x", 1, 399);
        SungSteps x = new SungSteps();
        Check.tasks(x, SIX.substring(10) + "task30 0 0;");
        Check.due("the sixth", x.task(5, 0), 30);
        Check.due("no seventh", x.task(6, 0), UNKNOWN);
    }

    @Says("Part 1: MINUTES 1 .. 30;")
    static void t1_minutes1To30() {
        SungSteps x = new SungSteps();
        Check.due("1 and 30", Check.tasks(x, "task 1 0 0;task 30 0 0;"), 2);
        Check.due("1", x.task(0, 0), 1);
        Check.due("30", x.task(1, 0), 30);
        tasksFault("task 0 0 0;", 2, 5);
        tasksFault("task 31 0 0;", 2, 5);
    }

    @Says("Part 1: who has all its PARTS fails P of a hundred, who lacks one passes Q of a hundred, 0 .. 49 both;")
    static void t1_slips0To49() {
        SungSteps x = new SungSteps();
        Check.due("0 and 49", Check.tasks(x, "task 1 0 49 ear,voice;task 1 49 0 ear;"), 2);
        int[][] slips = {{0, 49}, {49, 0}};
        for (int t = 0; t < 2; t++) for (int k = 0; k < 2; k++) Check.due("slip", x.task(t, 1 + k), slips[t][k]);
        tasksFault("task 1 50 0;", 2, 7);
        tasksFault("task 1 0 50;", 2, 9);
        x.result(0, true);
        Check.due("who has all never fails", x.odds(0), 100);
        Check.due("who lacks one of two", x.odds(2), 49);
        Check.due("who lacks both", x.odds(3), 49);
        Check.due("who lacks another", x.odds(12), 100);
    }

    @Says("Part 1: PARTS 'ear' 'voice' 'memory' 'range', numbered so, unlike).")
    static void t1_partsFromNoneToFour() {
        SungSteps x = new SungSteps();
        Check.due("tasks", Check.tasks(x, "task 1 0 0;task 1 0 0 ear;task 1 0 0 voice;task 1 0 0 memory;task 1 0 0 range;"
            + "task 1 0 0 range,memory,voice,ear;"), 6);
        int[] sets = {0, 1, 2, 4, 8, 15};
        for (int t = 0; t < 6; t++) Check.due("parts of " + t, x.task(t, 3), sets[t]);
        String[] parts = {"ear", "voice", "memory", "range"};
        for (String part : parts) tasksFault("task 1 0 0 " + part + "," + part + ";", 4, 12 + part.length());
        tasksFault("task 1 0 0 nose;", 1, 11);
        tasksFault("task 1 0 0 ears;", 1, 11);
        tasksFault("task 1 0 0 ea;", 1, 11);
    }

    // ---- part 1: what texts are made of

    @Says("Part 1: NUMBERS have one to three figures;")
    static void t1_numbersOfOneToThreeFigures() {
        SungSteps x = new SungSteps();
        Check.due("one, two, three", Check.tune(x, "note 7;note 07;note 007;note 036;"), 4);
        int[] dues = {700, 700, 700, 3600};
        for (int k = 0; k < 4; k++) Check.due("due " + k, x.note(k, 0), dues[k]);
        tuneFault("note 0007;", 2, 5);
        tuneFault("note 0000000000;", 2, 5);
        tuneFault("note 4294967303;", 2, 5);
        tuneFault("note ;", 1, 5);
        for (int which = 0; which < 7; which++) {
            singerNumber(which, "0020", OUTSIDE);
            singerNumber(which, "020", new int[] {20, -30, 20, 20, 20, 20, 0}[which]);
        }
        tasksAre("task 001 001 001;", 1);
        tasksFault("task 0001 1 1;", 2, 5);
        tasksFault("task 1 0001 1;", 2, 7);
        tasksFault("task 1 1 0001;", 2, 9);
    }

    @Says("Part 1: words are letters a .. z side by side;")
    static void t1_lettersAToZ() {
        tuneIs("note 1;", 1);
        // 96 and 123 stand beside a and z; 'A' to 'Z' are no letters here.
        tuneFault("note`1;", 1, 4);
        tuneFault("note{1;", 1, 4);
        tuneFault("Note 1;", 1, 0);
        tuneFault("note 1;Z", 1, 7);
        tuneFault("note 1;`", 1, 7);
        tuneFault("note 1;{", 1, 7);
        tasksFault("task 1 0 0 ear`;", 1, 14);
        tasksFault("task 1 0 0 ear{;", 1, 14);
        tasksFault("task 1 0 0 `ear;", 1, 11);
        // 47 and 58 stand beside 0 and 9.
        tuneFault("note 1/;", 1, 6);
        tuneFault("note 1:;", 1, 6);
        tuneFault("note /1;", 1, 5);
        tuneFault("note :1;", 1, 5);
        tuneIs("note 09;note 30;", 2);
    }

    @Says("Part 1: blanks (32) may stand anywhere but within words and NUMBERS;")
    static void t1_blanksAreOf32Alone() {
        tuneIs(" ", 0);
        tuneIs("  note  1  ;  breath  ;  ", 1);
        tasksAre(" task 1 0 0 ear , voice ; ", 1);
        tuneFault("no te 1;", 1, 0);
        tuneFault("note 1 2;", 1, 7);
        char[] others = {0, 9, 10, 13, 31, 33, 127, 128, 160, 255};
        for (char other : others) {
            tuneFault(other + "note 1;", 1, 0);
            tuneFault("note" + other + "1;", 1, 4);
            tuneFault("note 1;" + other, 1, 7);
        }
    }

    @Says("Part 1: two words, two NUMBERS side by side need one.")
    static void t1_wordsAndNumbersSideBySide() {
        singersFault("singerplain 0 0 0 1 0 0 0;", 1, 0);
        singersAre("singer plain0 0 0 1 0 0 0;", 1);
        singersFault("singer plain 0 0 0 10 0 0;", 1, 25);
        tuneIs("note1;", 1);
        tasksAre("task1 0 0ear;", 1);
        tasksAre("task1 0 0ear,voice;", 1);
        tasksFault("task1 0 0earvoice;", 1, 9);
        tasksFault("task 10 0ear;", 1, 9);
    }

    @Says("Part 1: FAULTS, at the first byte that has one (the end at the text's length),")
    static void t1_theFirstFaultAndTheEnd() {
        tuneFault("x", 1, 0);
        tuneFault("note 1;note 99;note 98;x", 2, 12);
        tuneFault("note 99;" + FORTY + "note0;", 2, 5);
        tuneFault("note", 1, 4);
        tuneFault("note ", 1, 5);
        tuneFault("note 1", 1, 6);
        tuneFault("breath  ", 1, 8);
        singersFault("singer", 1, 6);
        singersFault("singer plain", 1, 12);
        singersFault("singer plain 0 0 0 1 5", 1, 22);
        singersFault("singer plain 0 0 0 1 5 5 20", 1, 27);
        tasksFault("task 1 0 0", 1, 10);
        tasksFault("task 1 0 0 ear,", 1, 15);
        tasksFault("task 1 0 0 ear", 1, 14);
        tuneFault(blanks(394) + "note 1", 1, 400);
        tuneFault(blanks(394) + "breath", 1, 400);
        tasksFault(blanks(386) + "task 1 0 0 ear", 1, 400);
    }

    @Says("Part 1: (the end at the text's length)")
    static void t1_nothingOfALongerTextIsReadBehindTheEnd() {
        SungSteps x = new SungSteps();
        String[] shorter = {"note 12", "note 1", "note ", "note", "not"};
        int[] at = {7, 6, 5, 4, 0};
        for (int k = 0; k < 5; k++) {
            Check.due("the whole", Check.tune(x, "note 12;note 13;"), 2);
            Check.due("cut '" + shorter[k] + "'", Check.tune(x, shorter[k]), -11);
            Check.due("fault of '" + shorter[k] + "'", x.fault(), at[k]);
        }
        Check.due("the whole", Check.tune(x, "note 12;note 13;"), 2);
        Check.due("a clause less", Check.tune(x, "note 11;"), 1);
        Check.due("the whole", Check.tasks(x, "task 1 0 0 ear,voice;"), 1);
        Check.due("cut", Check.tasks(x, "task 1 0 0 ear"), -11);
        Check.due("fault", x.fault(), 14);
    }

    @Says("Part 1: of these the least:")
    static void t1_ofFaultsAtOneByteTheLeast() {
        // A number of four figures where none can stand; one that is out of its bounds there.
        tuneFault("note 1 0000;", 1, 7);
        tuneFault("1234;", 1, 0);
        tuneFault("breath 99;", 1, 7);
        tasksFault("task 1 0 0 1000;", 1, 11);
        // An H below L that has four figures; a 41st word that is no note.
        singersFault("singer plain 0 0 0 1 5 0004 20;", 2, 23);
        tuneFault(FORTY + "not0;", 1, 240);
        singersFault(TWELVE + "sing", 1, 300);
        tasksFault(SIX + "tas", 1, 60);
    }

    @Says("Part 1: 1 it cannot stand there (a word that cannot: at its first letter).")
    static void t1_fault1AWordAtItsFirstLetter() {
        tuneFault("notes 1;", 1, 0);
        tuneFault("note 1;  breathe;", 1, 9);
        tuneFault("note abc;", 1, 5);
        tuneFault("note 1 breath;", 1, 7);
        tuneFault("breath breath;", 1, 7);
        tuneFault(";", 1, 0);
        tuneFault("note 1;;", 1, 7);
        tuneFault("note 1,", 1, 6);
        tuneFault("singer plain 0 0 0 1 0 0 0;", 1, 0);
        singersFault("note 1;", 1, 0);
        singersFault("singer plain true 0 0 0 1 0 0 0;", 1, 13);
        singersFault("singer plain 0 0 0 1 0 0 0 0;", 1, 27);
        singersFault("singer plain 0 0 0 1 0 0;", 1, 24);
        tasksFault("task 1 0 ear;", 1, 9);
        tasksFault("task 1 0 0 ear voice;", 1, 15);
        tasksFault("task 1 0 0 ear,;", 1, 15);
        tasksFault("task 1 0 0 ,ear;", 1, 11);
        tasksFault("task 1 0 0 ear,,voice;", 1, 15);
        tasksFault("task 1 0 0 ear,voice,memory,range,;", 1, 34);
    }

    @Says("Part 1: 2 a NUMBER of four figures or more, or out of its bounds (at its first).")
    static void t1_fault2AtItsFirstFigure() {
        tuneFault("note  0001;", 2, 6);
        tuneFault("note0001;", 2, 4);
        tuneFault("note 37;", 2, 5);
        tuneFault("note 037;", 2, 5);
        singersFault("singer plain 0 0 0 1 0 0 0020;", 2, 25);
        singersFault("singer plain 0 0 0 41 5 4 20;", 2, 19);
        tasksFault("task 1 0 50 ear,ear;", 2, 9);
        tasksFault("task 31 50 50;", 2, 5);
    }

    @Says("Part 1: 3 a 41st NOTE, a 13th SINGER, a seventh TASK (at its first letter).")
    static void t1_fault3AtItsFirstLetter() {
        tuneFault(FORTY + "  note", 3, 242);
        tuneFault(FORTY + "breath;note 99;", 3, 247);
        tuneIs(FORTY + "breath;", 40);
        singersFault(TWELVE + " singer x", 3, 301);
        singersAre(TWELVE, 12);
        tasksFault(SIX + "   task 99", 3, 63);
        tasksAre(SIX, 6);
    }

    @Says("Part 1: 4 a PART again (at it); H below L (at the H).")
    static void t1_fault4AtThePartAndAtTheH() {
        tasksFault("task 1 0 0 ear,voice, ear;", 4, 22);
        tasksFault("task 1 0 0 ear,voice,memory,range,range", 4, 34);
        tasksFault("task 1 0 0 ear,voice,voice,ear,x", 4, 21);
        singersFault("singer plain 0 0 0 1 1  0 20;", 4, 24);
        singersFault("singer plain 0 0 0 1 36 35 99;", 4, 24);
        singersFault("singer plain 0 0 0 1 9 8", 4, 23);
        singersFault("singer plain 0 0 0 1 9 008 20;", 4, 23);
    }

    // ---- promises 1 to 10

    @Says("Promise 1: No TUNE (no NOTES), no SINGERS, no TASKS, no SONG.")
    static void p01_aNewObjectHasNothing() {
        SungSteps x = new SungSteps();
        int[] first = {0, 0, 0, 0, NONE, 0, 0, 0, 0};
        for (int what = 0; what < 9; what++) Check.due("told " + what, x.told(what), first[what]);
        Check.due("no note", x.note(0, 0), UNKNOWN);
        Check.due("no singer", x.singer(0, 0), UNKNOWN);
        Check.due("no task", x.task(0, 0), UNKNOWN);
        Check.due("no song", x.slid(), NOT);
        Check.due("no image", x.goBack(0), NOT);
        Check.due("no image", x.goBack(1), NOT);
        Check.due("weights of 1", x.odds(NONE), 16);
        Check.due("seed 0", x.seed(0), 0);
    }

    @Says("Promise 2: Up to eight bytes (n 1 .. 8) of a long, the highest of these first, come behind THE TEXT: how many it has.")
    static void p02_feedOneToEightBytes() {
        for (int n = 1; n <= 8; n++) {
            SungSteps x = new SungSteps();
            // The last n bytes of "note 36;", with bytes above them that do not count.
            Check.feed(x, "note 36;".substring(0, 8 - n));
            Check.due("feed " + n, x.feed(n, 0x6e6f_7465_2033_363bL), 8);
            Check.due("tune", x.tune(), 1);
            Check.due("due", x.note(0, 0), 3600);
        }
        SungSteps x = new SungSteps();
        Check.due("a long below 0 is eight bytes too", x.feed(8, -1L), 8);
        Check.due("255 cannot stand there", x.tune(), -11);
        Check.due("at the first", x.fault(), 0);
    }

    @Says("Promise 2: OUTSIDE, FULL (400).")
    static void p02_feedOutsideAndFull() {
        SungSteps x = new SungSteps();
        for (int n : new int[] {0, 9, -1, LEAST, MOST}) Check.due("feed " + n, x.feed(n, 0), OUTSIDE);
        for (int k = 1; k <= 50; k++) Check.due("feed 8", x.feed(8, 0x2020202020202020L), 8 * k);
        for (int n = 1; n <= 8; n++) Check.due("full for " + n, x.feed(n, 0), FULL);
        Check.due("400 bytes", x.told(3), 400);
        x.tune();
        Check.due("room again", x.feed(8, 0), 8);
        for (int k = 1; k < 49; k++) x.feed(8, 0);
        Check.due("392", x.told(3), 392);
        x.feed(1, 0);
        Check.due("eight do not fit in seven", x.feed(8, 0), FULL);
        Check.due("none of them came", x.told(3), 393);
        Check.due("seven do", x.feed(7, 0), 400);
    }

    private static SungSteps busy() {
        SungSteps x = Check.with("note 12;note 14;", "singer plain 50 50 9 3 5 30 20;", "task 1 10 20 ear;");
        x.lesson(0, 0);
        x.weigh(2, 9);
        x.result(0, true);
        x.seed(5);
        x.sing(0, 0);
        x.write(1);
        x.join(7);
        x.keep(0);
        x.keep(1);
        return x;
    }

    private static void songBookImages(SungSteps x, int singer, int heights, int image) {
        Check.due("who sang", x.told(4), singer);
        Check.due("the book", x.told(5), heights);
        Check.due("image 0", x.goBack(0), image);
        Check.due("image 1", x.goBack(1), image);
    }

    @Says("Promise 3: THE TEXT (it is empty then) becomes THE TUNE (no SONG, BOOK; IMAGES are gone): how many NOTES;")
    static void p03_tuneFromNoneToForty() {
        SungSteps x = busy();
        Check.due("forty", Check.tune(x, FORTY), 40);
        Check.due("the text is empty", x.told(3), 0);
        songBookImages(x, NONE, 0, NOT);
        Check.due("singers stay as they became", x.singer(0, 1), 37);
        Check.due("results stay", x.told(7), 1);
        Check.due("weights stay", x.weigh(2, 9), 9);
        Check.due("the crowd stays", x.told(6), 1);
        x = busy();
        Check.due("an empty text is a tune of none", x.tune(), 0);
        Check.due("no notes", x.told(0), 0);
        songBookImages(x, NONE, 0, NOT);
    }

    @Says("Promise 3: -10 less the number of its FAULT (all is as it was).")
    static void p03_aFaultyTuneChangesNothing() {
        String[] texts = {"note 1;x", "note 1;note 99;", FORTY + "note0;"};
        for (int k = 0; k < 3; k++) {
            SungSteps x = busy();
            Check.due("fault", Check.tune(x, texts[k]), -11 - k);
            Check.due("the text is empty all the same", x.told(3), 0);
            Check.due("the notes", x.told(0), 2);
            Check.due("the first", x.note(0, 0), 1200);
            Check.due("the second", x.note(1, 0), 1400);
            songBookImages(x, 0, 1, 1);
            Check.due("a right one behind it is of its own notes", Check.tune(x, "note 3;note 4;note 5;"), 3);
            Check.due("its first", x.note(0, 0), 300);
        }
    }

    @Says("Promise 4: THE TEXT (it is empty then) becomes SINGERS (no SONG, BOOK; IMAGES are gone): how many;")
    static void p04_singersFromNoneToTwelve() {
        SungSteps x = busy();
        Check.due("twelve", Check.singers(x, TWELVE), 12);
        Check.due("the text is empty", x.told(3), 0);
        songBookImages(x, NONE, 0, NOT);
        Check.due("the tune stays", x.told(0), 2);
        Check.due("results stay", x.told(7), 1);
        x = busy();
        Check.due("an empty text is nobody", x.singers(), 0);
        Check.due("nobody", x.told(1), 0);
        Check.due("not the first", x.singer(0, 0), UNKNOWN);
        songBookImages(x, NONE, 0, NOT);
    }

    @Says("Promise 4: -10 less the number of its FAULT (all is as it was).")
    static void p04_faultySingersChangeNothing() {
        String[] texts = {"x", "singer plain 100", TWELVE + "singer", "singer true 0 0 0 1 0 0 0;singer plain 0 0 0 1 1 0 0;"};
        for (int k = 0; k < 4; k++) {
            SungSteps x = busy();
            Check.due("fault", Check.singers(x, texts[k]), -11 - k);
            Check.due("the text is empty all the same", x.told(3), 0);
            Check.due("the singers", x.told(1), 1);
            Check.due("the kind", x.singer(0, 0), 0);
            Check.due("as it became", x.singer(0, 1), 37);
            songBookImages(x, 0, 1, 1);
            Check.due("right ones behind them are those of their text", Check.singers(x, "singer deaf 7 50 9 3 5 30 20;"), 1);
            Check.due("its kind", x.singer(0, 0), 6);
        }
    }

    @Says("Promise 5: THE TEXT (it is empty then) becomes TASKS (no RESULTS; IMAGES are gone): how many;")
    static void p05_tasksFromNoneToSix() {
        SungSteps x = busy();
        Check.due("six", Check.tasks(x, SIX), 6);
        Check.due("the text is empty", x.told(3), 0);
        Check.due("none done", x.told(7), 0);
        Check.due("none passed", x.told(8), 0);
        songBookImages(x, 0, 1, NOT);
        Check.due("weights stay", x.weigh(2, 9), 9);
        x = busy();
        Check.due("an empty text is none", x.tasks(), 0);
        Check.due("no tasks", x.told(2), 0);
        Check.due("none done", x.told(7), 0);
        songBookImages(x, 0, 1, NOT);
    }

    @Says("Promise 5: -10 less the number of its FAULT (all is as it was).")
    static void p05_faultyTasksChangeNothing() {
        String[] texts = {"x", "task 9 9 50", SIX + "task", "task 9 9 9 ear,ear"};
        for (int k = 0; k < 4; k++) {
            SungSteps x = busy();
            Check.due("fault", Check.tasks(x, texts[k]), -11 - k);
            Check.due("the text is empty all the same", x.told(3), 0);
            Check.due("the tasks", x.told(2), 1);
            Check.due("its minutes", x.task(0, 0), 1);
            Check.due("its parts", x.task(0, 3), 1);
            Check.due("its result", x.told(8), 1);
            songBookImages(x, 0, 1, 1);
            Check.due("right ones behind them are those of their text", Check.tasks(x, "task 7 0 0;task 8 0 0;"), 2);
            Check.due("its minutes", x.task(0, 0), 7);
        }
    }

    @Says("Promise 6: The byte of the FAULT of the latest tune(), singers(), tasks(); NONE.")
    static void p06_faultOfTheLatest() {
        SungSteps x = new SungSteps();
        Check.due("none was read", x.fault(), NONE);
        Check.tune(x, "x");
        Check.due("byte 0", x.fault(), 0);
        Check.singers(x, blanks(399) + "x");
        Check.due("byte 399", x.fault(), 399);
        Check.tasks(x, "task" + blanks(396));
        Check.due("the end of 400 bytes", x.fault(), 400);
        Check.feed(x, "note 1;");
        x.told(0);
        Check.due("other calls leave it", x.fault(), 400);
        x.tune();
        Check.due("a right tune", x.fault(), NONE);
        Check.tasks(x, "x");
        x.singers();
        Check.due("right singers", x.fault(), NONE);
        Check.tune(x, "x");
        x.tasks();
        Check.due("right tasks", x.fault(), NONE);
    }

    @Says("Promise 7: How many: 0 NOTES, 1 SINGERS, 2 TASKS, 3 bytes of THE TEXT, 4 who sang THE SONG (NONE), 5 entries of THE BOOK,"
        + " 6 HOMES of THE CROWD, 7 TASKS done (a SET), 8 passed (a SET). OUTSIDE.")
    static void p07_toldAtItsMost() {
        SungSteps x = Check.with(FORTY, TWELVE, SIX);
        x.sing(11, 2);
        for (int k = 0; k < 41; k++) x.write(0);
        for (int k = 0; k < 9; k++) x.join(0);
        for (int t = 0; t < 6; t++) x.result(t, t < 5);
        Check.feed(x, blanks(401));
        int[] most = {40, 12, 6, 400, 11, 40, 8, 63, 31};
        for (int what = 0; what < 9; what++) Check.due("told " + what, x.told(what), most[what]);
        for (int what : new int[] {-1, 9, LEAST, MOST}) Check.due("told " + what, x.told(what), OUTSIDE);
        Check.due("the first sings", x.sing(0, 2), 39);
        Check.due("who is 0, not none", x.told(4), 0);
    }

    @Says("Promise 8: Of a NOTE: what = 0 DUE, 1 whether a breath is ahead of it (1, 0). UNKNOWN, OUTSIDE.")
    static void p08_noteAtItsBounds() {
        SungSteps x = Check.with("note 36;breath;note 0;", "", "");
        int[][] want = {{3600, 0}, {0, 1}};
        for (int k = 0; k < 2; k++) for (int what = 0; what < 2; what++) Check.due("note", x.note(k, what), want[k][what]);
        for (int k : new int[] {-1, 2, LEAST, MOST}) Check.due("note " + k, x.note(k, 0), UNKNOWN);
        for (int what : new int[] {-1, 2, LEAST, MOST}) Check.due("what " + what, x.note(0, what), OUTSIDE);
    }

    @Says("Promise 9: Of a SINGER as it has become: what = 0 KIND, 1 EAR, 2 LEAN, 3 SPREAD, 4 MEMORY, 5 L, 6 H, 7 DRIFT. UNKNOWN, OUTSIDE.")
    static void p09_singerAtItsBounds() {
        SungSteps x = Check.with("", "singer plain 0 0 0 1 0 0 0;singer hushed 99 99 99 40 36 36 40;", "");
        int[][] want = {{0, 0, -50, 0, 1, 0, 0, -20}, {7, 99, 49, 99, 40, 36, 36, 20}};
        for (int s = 0; s < 2; s++) for (int what = 0; what < 8; what++) Check.due("singer", x.singer(s, what), want[s][what]);
        for (int s : new int[] {-1, 2, LEAST, MOST}) Check.due("singer " + s, x.singer(s, 0), UNKNOWN);
        for (int what : new int[] {-1, 8, LEAST, MOST}) Check.due("what " + what, x.singer(0, what), OUTSIDE);
        for (int part = 0; part < 4; part++) x.lesson(1, part);
        int[] became = {7, 74, 33, 66, 40, 35, 36, 20};
        for (int what = 0; what < 8; what++) Check.due("became", x.singer(1, what), became[what]);
    }

    @Says("Promise 10: Of a TASK: what = 0 MINUTES, 1 P, 2 Q, 3 PARTS (a SET). UNKNOWN, OUTSIDE.")
    static void p10_taskAtItsBounds() {
        SungSteps x = Check.with("", "", "task 1 0 0;task 30 49 48 range,voice,ear,memory;");
        int[][] want = {{1, 0, 0, 0}, {30, 49, 48, 15}};
        for (int t = 0; t < 2; t++) for (int what = 0; what < 4; what++) Check.due("task", x.task(t, what), want[t][what]);
        for (int t : new int[] {-1, 2, LEAST, MOST}) Check.due("task " + t, x.task(t, 0), UNKNOWN);
        for (int what : new int[] {-1, 4, LEAST, MOST}) Check.due("what " + what, x.task(0, what), OUTSIDE);
    }
}
