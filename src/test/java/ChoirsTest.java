import java.util.HashMap;
import java.util.Map;

/** Promises 28 to 33: passes, pairs, join, part, ends, round. */
public final class ChoirsTest {
    private static final Map<String, Boolean> SEEN = new HashMap<>();

    public static void main(String[] args) {
        passesWithoutSlips();
        passesWithASlip();
        passesRefuse();
        pairs();
        joins();
        parts();
        endsByHand();
        endsByTurns();
        endsRefuse();
        rounds();
        roundRefuses();
        Check.end("ChoirsTest");
    }

    private static void passesWithoutSlips() {
        SungSteps x = new SungSteps();
        int[] want = {0, 1, 2, 2, 3, 3, 3, 3, 4, 4, 4, 4, 4, 4, 4, 4};
        for (int n = 1; n <= 16; n++) Check.due("passes of " + n, x.passes(n, 0), want[n - 1]);
    }

    /** Some who may growl with no slip so far, some only if there was one: can so few passes tell who? */
    private static boolean canTell(int free, int slipped, int passes) {
        if (free + slipped <= 1) return true;
        if (passes == 0) return false;
        String state = free + "," + slipped + "," + passes;
        Boolean seen = SEEN.get(state);
        if (seen != null) return seen;
        boolean can = false;
        for (int a = 0; a <= free && !can; a++) {
            for (int b = 0; b <= slipped && !can; b++) {
                can = canTell(a, b + free - a, passes - 1) && canTell(free - a, slipped - b + a, passes - 1);
            }
        }
        SEEN.put(state, can);
        return can;
    }

    private static void passesWithASlip() {
        SungSteps x = new SungSteps();
        int[] want = {0, 3, 5, 5, 6, 6, 6, 6, 7, 7, 7, 7, 7, 7, 7, 7};
        for (int n = 1; n <= 16; n++) {
            int fewest = 0;
            while (!canTell(n, 0, fewest)) fewest++;
            Check.due("by the whole game, " + n, fewest, want[n - 1]);
            Check.due("passes of " + n + " with a slip", x.passes(n, 1), fewest);
        }
    }

    private static void passesRefuse() {
        SungSteps x = new SungSteps();
        Check.due("nobody", x.passes(0, 0), SungSteps.OUTSIDE);
        Check.due("17", x.passes(17, 0), SungSteps.OUTSIDE);
        Check.due("two slips", x.passes(4, 2), SungSteps.OUTSIDE);
        Check.due("less than none", x.passes(4, -1), SungSteps.OUTSIDE);
        Check.due("both", x.passes(Integer.MIN_VALUE, Integer.MAX_VALUE), SungSteps.OUTSIDE);
    }

    private static void pairs() {
        SungSteps x = new SungSteps();
        // Pairs: 1, 3, 6, 10, 15, 21, 28, 36, 45, 55, 66, 78, 91, 105, 120.
        int[] want = {0, 2, 3, 4, 4, 5, 5, 6, 6, 6, 7, 7, 7, 7, 7};
        for (int n = 2; n <= 16; n++) Check.due("pairs of " + n, x.pairs(n), want[n - 2]);
        int[] bad = {1, 0, -1, 17, Integer.MAX_VALUE, Integer.MIN_VALUE};
        for (int n : bad) Check.due("pairs of " + n, x.pairs(n), SungSteps.OUTSIDE);
    }

    private static void joins() {
        SungSteps x = new SungSteps();
        Check.due("1201", x.join(1201), SungSteps.OUTSIDE);
        Check.due("-1201", x.join(-1201), SungSteps.OUTSIDE);
        Check.due("nobody came", x.told(6), 0);
        for (int k = 1; k <= 8; k++) Check.due("join", x.join(k % 2 == 0 ? 1200 : -1200), k);
        Check.due("a ninth", x.join(0), SungSteps.FULL);
        Check.due("outside ahead of full", x.join(1201), SungSteps.OUTSIDE);
        Check.due("eight", x.told(6), 8);
    }

    private static void parts() {
        SungSteps x = new SungSteps();
        x.join(5);
        x.join(6);
        Check.due("two were", x.part(), 2);
        Check.due("nobody", x.told(6), 0);
        Check.due("none were", x.part(), 0);
        Check.due("ends", x.ends(0), SungSteps.NOT);
        Check.due("join", x.join(900), 1);
        Check.due("ends", x.ends(0), 900);
    }

    private static void ends(int mean, int turns, int... homes) {
        SungSteps x = new SungSteps();
        for (int home : homes) x.join(home);
        Check.due("ends", x.ends(0), mean);
        Check.due("turns", x.ends(1), turns);
        Check.due("and again", x.ends(0), mean);
        Check.due("and again", x.ends(1), turns);
    }

    private static void endsByHand() {
        ends(7, 0, 7);
        ends(-1200, 0, -1200, -1200);
        ends(0, 0, 0, 1);
        // Of a mean 2.5 cut: 2 and 3 stay.
        ends(2, 0, 2, 3);
        // Mean 2: 0 goes to 1, 4 to 3; then all are within one.
        ends(2, 1, 0, 4);
        // Mean 5: 2, 8; 3, 7; 4, 6; still.
        ends(5, 3, 0, 10);
        ends(-5, 3, 0, -10);
        ends(-2, 0, -2, -3);
        // Mean 100 / 3 = 33: 16, 16, 67; mean 33: 24, 24, 50; mean 32: 28, 28, 41; mean 32: 30, 30, 37; mean 32: 31, 31, 35;
        // mean 32: 31, 31, 34; mean 32: 31, 31, 33; mean 31: 31, 31, 32; mean 31: still.
        ends(31, 8, 0, 0, 100);
        // Mean -1.25 cut to -1: -3 goes to -2, which is within one of -1.
        ends(-1, 1, -1, -1, -1, -1, -1, -1, -1, -3);
    }

    private static void endsByTurns() {
        for (int run = 0; run < 300; run++) {
            SungSteps x = new SungSteps();
            int n = 1 + run % 8;
            int[] homes = new int[n];
            for (int k = 0; k < n; k++) {
                homes[k] = (run * 7919 + k * 104729 + run * k * 31) % 2401 - 1200;
                x.join(homes[k]);
            }
            int turns = -1, mean = 0;
            boolean changed = true;
            while (changed) {
                int sum = 0;
                for (int home : homes) sum += home;
                mean = sum / n;
                changed = false;
                for (int k = 0; k < n; k++) {
                    int then = homes[k] + (mean - homes[k]) / 2;
                    if (then != homes[k]) changed = true;
                    homes[k] = then;
                }
                turns++;
            }
            Check.due("ends of run " + run, x.ends(0), mean);
            Check.due("turns of run " + run, x.ends(1), turns);
            Check.due("they stay as told", x.ends(1), turns);
        }
    }

    private static void endsRefuse() {
        SungSteps x = new SungSteps();
        Check.due("nobody", x.ends(0), SungSteps.NOT);
        Check.due("nobody", x.ends(1), SungSteps.NOT);
        Check.due("outside ahead of not", x.ends(2), SungSteps.OUTSIDE);
        x.join(3);
        Check.due("what 2", x.ends(2), SungSteps.OUTSIDE);
        Check.due("what -1", x.ends(-1), SungSteps.OUTSIDE);
    }

    private static void round(int a, int b, int n, int one, int other) {
        SungSteps x = new SungSteps();
        Check.due("round " + a + " " + b + " " + n, x.round(a, b, n, 0), one);
        Check.due("round " + a + " " + b + " " + n, x.round(a, b, n, 1), other);
        Check.due("the other way", x.round(b, a, n, 0), other);
        Check.due("the other way", x.round(b, a, n, 1), one);
    }

    private static void rounds() {
        round(0, 900, 0, 0, 900);
        round(0, 900, 1, 300, 600);
        round(0, 900, 2, 400, 500);
        round(0, 900, 3, 433, 467);
        round(0, 900, 4, 444, 456);
        round(0, 900, 5, 448, 452);
        round(0, 900, 6, 449, 451);
        round(0, 900, 99, 449, 451);
        round(0, -900, 3, -433, -467);
        round(-1200, 1200, 1, -400, 400);
        round(0, 2, 99, 0, 2);
        round(0, 3, 1, 1, 2);
        round(-1, 4, 1, 0, 3);
        round(-1, 4, 2, 1, 2);
        round(5, 5, 50, 5, 5);
    }

    private static void roundRefuses() {
        SungSteps x = new SungSteps();
        Check.due("a", x.round(1201, 0, 0, 0), SungSteps.OUTSIDE);
        Check.due("a", x.round(-1201, 0, 0, 0), SungSteps.OUTSIDE);
        Check.due("b", x.round(0, 1201, 0, 0), SungSteps.OUTSIDE);
        Check.due("b", x.round(0, -1201, 0, 0), SungSteps.OUTSIDE);
        Check.due("n", x.round(0, 0, 100, 0), SungSteps.OUTSIDE);
        Check.due("n", x.round(0, 0, -1, 0), SungSteps.OUTSIDE);
        Check.due("what", x.round(0, 0, 0, 2), SungSteps.OUTSIDE);
        Check.due("what", x.round(0, 0, 0, -1), SungSteps.OUTSIDE);
        Check.due("least", x.round(Integer.MIN_VALUE, Integer.MIN_VALUE, 1, 0), SungSteps.OUTSIDE);
    }
}
