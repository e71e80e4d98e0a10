import java.nio.charset.StandardCharsets;

/** What every test of the project uses: answers compared, texts fed, and the end of a test's main. */
final class Check {
    private static int looked = 0, wrong = 0;
    private static String where = "";

    private Check() {
    }

    /** What is wrong from here on is printed behind these words. */
    static void begin(String words) {
        where = words;
    }

    static int looked() {
        return looked;
    }

    static void due(String call, long got, long want) {
        looked++;
        if (got == want) return;
        wrong++;
        System.out.println(where + call + " answered " + got + ", due is " + want);
    }

    static void holds(String what, boolean so) {
        looked++;
        if (so) return;
        wrong++;
        System.out.println(where + "does not hold: " + what);
    }

    static void feed(SungSteps x, String text) {
        byte[] bytes = text.getBytes(StandardCharsets.ISO_8859_1);
        for (int from = 0; from < bytes.length; from += 8) {
            int n = Math.min(8, bytes.length - from);
            long packed = 0;
            for (int k = 0; k < n; k++) packed = packed << 8 | bytes[from + k] & 255;
            x.feed(n, packed);
        }
    }

    static int tune(SungSteps x, String text) {
        feed(x, text);
        return x.tune();
    }

    static int singers(SungSteps x, String text) {
        feed(x, text);
        return x.singers();
    }

    static int tasks(SungSteps x, String text) {
        feed(x, text);
        return x.tasks();
    }

    /** A new object with these texts, all of which are right. */
    static SungSteps with(String tune, String singers, String tasks) {
        SungSteps x = new SungSteps();
        holds("tune " + tune, tune(x, tune) >= 0);
        holds("singers " + singers, singers(x, singers) >= 0);
        holds("tasks " + tasks, tasks(x, tasks) >= 0);
        return x;
    }

    static String times(String text, int n) {
        return text.repeat(n);
    }

    static void end(String test) {
        System.out.println(test + ": " + looked + " looked at, " + wrong + " wrong");
        if (wrong != 0 || looked == 0) System.exit(1);
    }
}
