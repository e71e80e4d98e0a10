import java.nio.charset.StandardCharsets;
import java.util.Random;

/** Long runs of calls, right and wrong ones, on the class and on the second reading: the answers are the same. */
public final class AgreeTest {
    private static final String[] KINDS = {"plain", "true", "drifting", "narrow", "growling", "short", "deaf", "hushed"};
    private static final String[] PARTS = {"ear", "voice", "memory", "range"};
    private static final int[] ODD = {-1, -2, 100, 101, 1201, -1201, 10000, Integer.MIN_VALUE, Integer.MAX_VALUE, 16, 17};

    private final Random random;
    private final SungSteps x = new SungSteps();
    private final SecondReading y = new SecondReading();
    private final StringBuilder said = new StringBuilder();
    private int wrong = 0;
    private int calls = 0;
    private boolean spoils = false;

    private AgreeTest(long seed) {
        random = new Random(seed);
    }

    public static void main(String[] args) {
        int runs = args.length > 0 ? Integer.parseInt(args[0]) : 1500;
        int bad = 0;
        for (int run = 0; run < runs; run++) {
            AgreeTest test = new AgreeTest(run);
            while (test.calls < 480 && test.wrong == 0) test.oneMore();
            if (test.wrong > 0) {
                bad++;
                System.out.println("run " + run + ":" + test.said);
            }
            if (bad > 3) break;
        }
        Check.due("runs that disagree", bad, 0);
        Check.end("AgreeTest");
    }

    private void same(String call, long got, long want) {
        calls++;
        said.append("\n  ").append(call).append(" answered ").append(got);
        if (got == want) return;
        wrong++;
        said.append(", due is ").append(want);
    }

    private int upTo(int n) {
        return random.nextInt(n + 1);
    }

    /** Mostly one of so many, rarely one that there is not. */
    private int oneOf(int count) {
        return random.nextInt(15) == 0 || count <= 0 ? ODD[random.nextInt(ODD.length)] : random.nextInt(count);
    }

    private int oddOr(int value) {
        return random.nextInt(12) == 0 ? ODD[random.nextInt(ODD.length)] : value;
    }

    // ---- texts, mostly right, some with a sign changed, left out or put in

    private String number(int low, int high) {
        int value = low + random.nextInt(high - low + 1);
        int sort = random.nextInt(40);
        if (sort == 0) return "" + low;
        if (sort == 1) return "" + high;
        if (sort == 2) return "0" + value;
        if (sort == 3 && spoils && random.nextInt(8) == 0) return "" + (high + 1);
        if (sort == 4 && spoils && random.nextInt(8) == 0) return "000" + value;
        if (sort == 5 && spoils && random.nextInt(8) == 0 && low > 0) return "" + (low - 1);
        return "" + value;
    }

    private String tuneText() {
        StringBuilder text = new StringBuilder();
        int notes = random.nextInt(8) == 0 ? 36 + random.nextInt(7) : random.nextInt(12);
        int wide = random.nextInt(3);
        int at = random.nextInt(37);
        for (int k = 0; k < notes; k++) {
            if (random.nextInt(6) == 0) text.append("breath;");
            at = wide == 0 ? random.nextInt(37) : Math.max(0, Math.min(36, at + random.nextInt(4 * wide + 1) - 2 * wide));
            text.append("note ").append(at).append(";");
        }
        return text.toString();
    }

    private String singersText() {
        StringBuilder text = new StringBuilder();
        int count = random.nextInt(8) == 0 ? 11 + random.nextInt(3) : random.nextInt(9);
        for (int k = 0; k < count; k++) {
            int low = random.nextInt(3) == 0 ? 0 : random.nextInt(37);
            int high = random.nextInt(3) == 0 ? 36 : low + random.nextInt(37 - low);
            if (spoils && random.nextInt(25) == 0) high = random.nextInt(37);
            boolean fine = random.nextBoolean();
            text.append("singer ").append(KINDS[random.nextInt(8)]).append(' ').append(number(0, 99)).append(' ')
                .append(fine ? number(30, 70) : number(0, 99)).append(' ').append(fine ? number(0, 20) : number(0, 99)).append(' ')
                .append(random.nextBoolean() ? number(1, 6) : number(1, 40)).append(' ').append(low).append(' ').append(high)
                .append(' ').append(fine ? number(18, 22) : number(0, 40)).append(";");
        }
        return text.toString();
    }

    private String tasksText() {
        StringBuilder text = new StringBuilder();
        int count = random.nextInt(8) == 0 ? 6 + random.nextInt(2) : random.nextInt(5);
        for (int k = 0; k < count; k++) {
            boolean sure = random.nextInt(3) == 0;
            text.append("task ").append(number(1, 30)).append(' ').append(sure ? "0" : number(0, 49)).append(' ')
                .append(sure ? "0" : number(0, 49));
            int set = random.nextInt(16);
            String sign = " ";
            for (int part = 0; part < 4; part++) {
                if ((set >> part & 1) == 0) continue;
                text.append(sign).append(PARTS[part]);
                sign = ",";
            }
            if (spoils && set > 0 && random.nextInt(12) == 0) text.append(',').append(PARTS[random.nextInt(4)]);
            text.append(";");
        }
        return text.toString();
    }

    private String spoilt(String text) {
        if (!spoils || random.nextInt(3) != 0) return text;
        StringBuilder then = new StringBuilder(text);
        int times = 1 + random.nextInt(2);
        String signs = " ;,0123456789abenorst\u00e9AZ\t";
        for (int k = 0; k < times; k++) {
            int at = random.nextInt(then.length() + 1);
            char sign = signs.charAt(random.nextInt(signs.length()));
            int sort = random.nextInt(5);
            if (sort == 0) then.insert(at, sign);
            else if (sort == 1 && at < then.length()) then.setCharAt(at, sign);
            else if (sort == 2 && at < then.length()) then.deleteCharAt(at);
            else if (sort == 3) then.setLength(at);
            else then.insert(at, ' ');
        }
        return then.toString();
    }

    private void feedBoth(String text) {
        byte[] bytes = text.getBytes(StandardCharsets.ISO_8859_1);
        for (int from = 0; from < bytes.length; from += 8) {
            int n = Math.min(8, bytes.length - from);
            long packed = random.nextInt(4) == 0 ? -1 : 0;
            for (int k = 0; k < n; k++) packed = packed << 8 | bytes[from + k] & 255;
            same("feed " + n + " '" + text.substring(from, from + n) + "'", x.feed(n, packed), y.feed(n, packed));
        }
    }

    private void tellText(int sort) {
        feedBoth(spoilt(sort == 0 ? singersText() : sort == 1 ? tuneText() : tasksText()));
        int read = spoils && random.nextInt(30) == 0 ? random.nextInt(3) : sort;
        if (read == 0) same("singers", x.singers(), y.singers());
        else if (read == 1) same("tune", x.tune(), y.tune());
        else same("tasks", x.tasks(), y.tasks());
        same("fault", x.fault(), y.fault());
        if (spoils && random.nextBoolean()) tellAll();
    }

    private void tellAll() {
        for (int what = -1; what <= 9; what++) same("told " + what, x.told(what), y.told(what));
        int k = oneOf(y.told(1));
        for (int what = 0; what < 9; what++) same("singer " + k + " " + what, x.singer(k, what), y.singer(k, what));
        int n = oneOf(y.told(0));
        for (int what = 0; what < 3; what++) same("note " + n + " " + what, x.note(n, what), y.note(n, what));
        int t = oneOf(y.told(2));
        for (int what = 0; what < 5; what++) same("task " + t + " " + what, x.task(t, what), y.task(t, what));
    }

    // ---- the other calls

    private void oneMore() {
        if (calls == 0) {
            for (int sort = 0; sort < 3; sort++) tellText(sort);
            spoils = true;
            return;
        }
        if (random.nextInt(60) == 0) {
            tellText(random.nextInt(3));
            return;
        }
        switch (random.nextInt(7)) {
            case 0: song(); break;
            case 1: whichPart(); break;
            case 2: lessons(); break;
            case 3: choirs(); break;
            case 4: books(); break;
            case 5: tellOne(); break;
            default: song(); break;
        }
    }

    private void tellOne() {
        int b = oddOr(upTo(8)), a = oneOf(y.told(b % 3));
        switch (random.nextInt(6)) {
            case 0: same("told " + b, x.told(b), y.told(b)); break;
            case 1: same("note " + a + " " + b, x.note(a, b & 1), y.note(a, b & 1)); break;
            case 2: same("singer " + a + " " + b, x.singer(a, b), y.singer(a, b)); break;
            case 3: same("task " + a + " " + b, x.task(a, b), y.task(a, b)); break;
            case 4: same("fault", x.fault(), y.fault()); break;
            default: if (random.nextInt(9) == 0) same("feed " + a, x.feed(a - 2, 0x20), y.feed(a - 2, 0x20)); break;
        }
    }

    private void song() {
        int a = oneOf(y.told(1)), m = oddOr(random.nextInt(3)), n = oneOf(y.told(0));
        switch (random.nextInt(8)) {
            case 0: case 1: same("sing " + a + " " + m, x.sing(a, m), y.sing(a, m)); break;
            case 2: for (int k = 0; k < y.told(0); k += 1 + k / 8) same("height " + k, x.height(k), y.height(k)); break;
            case 3: same("height " + n, x.height(n), y.height(n)); break;
            case 4: same("slid", x.slid(), y.slid()); break;
            case 5: int w = oddOr(random.nextInt(4)); same("score " + w, x.score(w), y.score(w)); break;
            case 6: same("calls", x.calls(), y.calls()); break;
            default: int f = oddOr(random.nextInt(2)); same("fooled " + f, x.fooled(f), y.fooled(f)); break;
        }
    }

    private void whichPart() {
        int type = oddOr(random.nextInt(16)), v = oddOr(random.nextInt(3) == 0 ? 0 : random.nextInt(100));
        int t = oneOf(y.told(2)), q = oddOr(1 + random.nextInt(100));
        boolean passed = random.nextBoolean();
        switch (random.nextInt(9)) {
            case 0: same("weigh " + type + " " + v, x.weigh(type, v), y.weigh(type, v)); break;
            case 1: same("result " + t + " " + passed, x.result(t, passed), y.result(t, passed)); break;
            case 2: if (random.nextInt(3) == 0) same("forget", x.forget(), y.forget()); break;
            case 3: same("odds " + type, x.odds(type), y.odds(type)); break;
            case 4: same("odds of all", x.odds(-1), y.odds(-1)); break;
            case 5: same("next", x.next(), y.next()); break;
            case 6: if (y.told(2) < 5 || random.nextInt(8) == 0) same("left " + q, x.left(q), y.left(q)); break;
            case 7: same("alike " + type, x.alike(type), y.alike(type)); break;
            default: int some = random.nextInt(16); for (int k = 0; k < some; k++) same("weigh", x.weigh((type + k) & 15, 0), y.weigh((type + k) & 15, 0)); break;
        }
    }

    private void lessons() {
        int s = oneOf(y.told(1)), part = oddOr(random.nextInt(4)), n = oddOr(1 + random.nextInt(4));
        int what = oddOr(random.nextInt(3) == 0 ? random.nextInt(5) : random.nextInt(Math.max(1, Math.min(4, n) + 1)));
        switch (random.nextInt(5)) {
            case 0: case 1: same("lesson " + s + " " + part, x.lesson(s, part), y.lesson(s, part)); break;
            case 2: same("plan " + s + " " + n + " " + what, x.plan(s, n, what), y.plan(s, n, what)); break;
            case 3: int k = oddOr(random.nextInt(2)); same("key " + k, x.key(k), y.key(k)); break;
            default: same("age " + s, x.age(s), y.age(s)); break;
        }
    }

    private void choirs() {
        int n = oddOr(upTo(17)), e = oddOr(random.nextInt(2)), what = oddOr(random.nextInt(2));
        int a = oddOr(random.nextInt(2401) - 1200), b = oddOr(random.nextInt(2401) - 1200), turns = oddOr(upTo(100));
        switch (random.nextInt(7)) {
            case 0: same("passes " + n + " " + e, x.passes(n, e), y.passes(n, e)); break;
            case 1: same("pairs " + n, x.pairs(n), y.pairs(n)); break;
            case 2: case 3: same("join " + a, x.join(a), y.join(a)); break;
            case 4: if (random.nextInt(4) == 0) same("part", x.part(), y.part()); break;
            case 5: same("ends " + what, x.ends(what), y.ends(what)); break;
            default:
                String call = "round " + a + " " + b + " " + turns + " " + what;
                same(call, x.round(a, b, turns, what), y.round(a, b, turns, what));
                break;
        }
    }

    private void books() {
        int i = oddOr(random.nextInt(2)), near = y.height(y.told(5));
        int h = oddOr(near >= 0 ? Math.max(0, near + random.nextInt(104) - 52) : random.nextInt(10000));
        switch (random.nextInt(8)) {
            case 0: case 1: case 2: same("write " + h, x.write(h), y.write(h)); break;
            case 3: if (random.nextInt(4) == 0) same("tear", x.tear(), y.tear()); break;
            case 4: same("judge", x.judge(), y.judge()); break;
            case 5: int v = random.nextInt(3) == 0 ? random.nextInt() : oddOr(upTo(9)); same("seed " + v, x.seed(v), y.seed(v)); break;
            case 6: same("keep " + i, x.keep(i), y.keep(i)); break;
            default: same("goBack " + i, x.goBack(i), y.goBack(i)); tellAll(); break;
        }
    }
}
