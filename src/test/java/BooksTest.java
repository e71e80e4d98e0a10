/** Promises 34 to 39: write, tear, judge, seed, keep, goBack. */
public final class BooksTest {
    private static final String TUNE = "note 12;note 14;note 16;";
    private static final String SINGERS = "singer true 0 50 0 40 0 36 20;singer hushed 0 50 0 40 0 36 20;singer plain 40 70 30 3 5 30 20;";
    private static final String TASKS = "task 5 10 20 ear;task 3 1 2 voice;";

    public static void main(String[] args) {
        writes();
        tears();
        judges();
        judgesBeyond();
        seeds();
        keepsAll();
        keepsApart();
        keepsNoSong();
        imageRefuses();
        imagesGo();
        Check.end("BooksTest");
    }

    private static SungSteps full() {
        SungSteps x = new SungSteps();
        Check.due("tune", Check.tune(x, TUNE), 3);
        Check.due("singers", Check.singers(x, SINGERS), 3);
        Check.due("tasks", Check.tasks(x, TASKS), 2);
        return x;
    }

    private static void writes() {
        SungSteps x = new SungSteps();
        Check.due("10000", x.write(10000), SungSteps.OUTSIDE);
        Check.due("-1", x.write(-1), SungSteps.OUTSIDE);
        Check.due("none yet", x.told(5), 0);
        for (int k = 1; k <= 40; k++) Check.due("write without a song", x.write(k % 2 == 0 ? 0 : 9999), k);
        Check.due("a 41st", x.write(5), SungSteps.FULL);
        Check.due("outside ahead of full", x.write(10000), SungSteps.OUTSIDE);
        Check.due("forty", x.told(5), 40);
    }

    private static void tears() {
        SungSteps x = full();
        Check.due("empty", x.tear(), 0);
        x.write(1);
        x.write(2);
        Check.due("two", x.tear(), 2);
        Check.due("none", x.told(5), 0);
        Check.due("the first again", x.write(1200), 1);
        x.sing(0, 2);
        Check.due("right", x.judge(), SungSteps.NONE);
    }

    private static int judged(int... heights) {
        SungSteps x = full();
        x.sing(0, 2);
        for (int height : heights) x.write(height);
        int answer = x.judge();
        Check.due("and again", x.judge(), answer);
        Check.due("the book stays", x.told(5), heights.length);
        return answer;
    }

    private static void judges() {
        Check.due("an empty book", judged(), SungSteps.NONE);
        Check.due("all right", judged(1200, 1400, 1600), SungSteps.NONE);
        Check.due("fewer", judged(1200), SungSteps.NONE);
        Check.due("50 off", judged(1250, 1350, 1650), SungSteps.NONE);
        Check.due("51 above", judged(1200, 1451, 1600), 1);
        Check.due("51 below", judged(1200, 1400, 1549), 2);
        Check.due("the first of two", judged(1149, 1400, 0), 0);
        SungSteps x = full();
        x.write(1200);
        Check.due("no song", x.judge(), SungSteps.NOT);
        Check.due("the book stays", x.told(5), 1);
        x.sing(0, 2);
        Check.due("a song keeps the book", x.judge(), SungSteps.NONE);
        x.tear();
        x.write(1400);
        x.sing(0, 2);
        Check.due("judged by the song that is", x.judge(), 0);
    }

    private static void judgesBeyond() {
        Check.due("beyond the song", judged(1200, 1400, 1600, 0), 3);
        Check.due("beyond by much", judged(1200, 1400, 1600, 1600, 1600), 3);
        SungSteps x = full();
        x.sing(1, 2);
        Check.due("hushed, nothing written", x.judge(), SungSteps.NONE);
        x.write(0);
        Check.due("hushed: no height is right, though 0 is near to NONE", x.judge(), 0);
        x = new SungSteps();
        Check.singers(x, SINGERS);
        x.sing(0, 2);
        x.write(0);
        Check.due("a song without notes", x.judge(), 0);
    }

    private static void seeds() {
        SungSteps x = new SungSteps();
        Check.due("at first", x.seed(2147483647), 0);
        Check.due("-1", x.seed(-1), SungSteps.OUTSIDE);
        Check.due("least", x.seed(Integer.MIN_VALUE), SungSteps.OUTSIDE);
        Check.due("was", x.seed(0), 2147483647);
        Check.due("was", x.seed(5), 0);
        x = full();
        x.seed(5);
        x.sing(2, 0);
        int one = x.height(0), two = x.height(2);
        x.sing(2, 0);
        Check.holds("other draws", x.height(0) != one || x.height(2) != two);
        x.seed(5);
        x.sing(2, 0);
        Check.due("the same draws", x.height(0), one);
        Check.due("the same draws", x.height(2), two);
    }

    private static void keepsAll() {
        SungSteps x = full();
        x.seed(11);
        x.sing(2, 0);
        x.result(0, true);
        x.weigh(4, 40);
        x.lesson(2, 0);
        x.write(77);
        x.join(8);
        int[] heights = {x.height(0), x.height(1), x.height(2)};
        int seed = x.seed(0);
        x.seed(seed);
        Check.due("keep", x.keep(0), 1);
        x.sing(1, 0);
        x.sing(0, 0);
        x.seed(99);
        x.result(1, true);
        x.weigh(4, 1);
        x.weigh(5, 2);
        for (int part = 0; part < 4; part++) x.lesson(2, part);
        x.write(78);
        x.join(9);
        Check.feed(x, "note");
        Check.due("goBack", x.goBack(0), 1);
        Check.due("who sang", x.told(4), 2);
        for (int k = 0; k < 3; k++) Check.due("height", x.height(k), heights[k]);
        Check.due("done", x.told(7), 1);
        Check.due("passed", x.told(8), 1);
        Check.due("weight 4", x.weigh(4, 40), 40);
        Check.due("weight 5", x.weigh(5, 1), 1);
        int[] singer = {6, 40 - 10 - 1, 20, 30, 3, 5, 30, 0};
        for (int what = 1; what < 8; what++) Check.due("singer " + what, x.singer(2, what), singer[what]);
        Check.due("the seed", x.seed(seed), seed);
        Check.due("the book is not of it", x.told(5), 2);
        Check.due("the crowd is not of it", x.told(6), 2);
        Check.due("the text is not of it", x.told(3), 4);
        Check.due("again from the same image", x.goBack(0), 1);
        Check.due("done", x.told(7), 1);
    }

    private static void keepsApart() {
        SungSteps x = full();
        x.keep(0);
        x.result(0, true);
        x.lesson(2, 2);
        x.keep(1);
        x.result(1, true);
        x.lesson(2, 2);
        x.goBack(0);
        Check.due("image 0", x.told(7), 0);
        Check.due("image 0", x.singer(2, 4), 3);
        x.lesson(2, 0);
        x.weigh(0, 9);
        x.goBack(1);
        Check.due("image 1", x.told(7), 1);
        Check.due("image 1", x.singer(2, 4), 5);
        Check.due("image 1", x.singer(2, 1), 40);
        Check.due("image 1", x.odds(0), 90);
        x.goBack(0);
        Check.due("what was done behind an image is not in it", x.singer(2, 1), 40);
        Check.due("nor its weights", x.odds(0), 1);
        x.lesson(2, 2);
        x.keep(0);
        x.lesson(2, 2);
        x.goBack(0);
        Check.due("kept anew", x.singer(2, 4), 5);
    }

    private static void keepsNoSong() {
        SungSteps x = full();
        x.keep(1);
        x.sing(0, 2);
        x.goBack(1);
        Check.due("no song", x.told(4), SungSteps.NONE);
        Check.due("no song", x.height(0), SungSteps.NOT);
        Check.due("no song", x.judge(), SungSteps.NOT);
        x.sing(0, 2);
        x.keep(0);
        x.goBack(1);
        x.goBack(0);
        Check.due("a song behind none", x.height(2), 1600);
        Check.due("a song behind none", x.calls(), 0);
        x.sing(1, 2);
        x.keep(1);
        x.sing(0, 2);
        x.goBack(1);
        Check.due("a hushed song", x.told(4), 1);
        Check.due("a hushed song", x.height(2), SungSteps.NONE);
        Check.due("a hushed song", x.calls(), 15);
    }

    private static void imageRefuses() {
        SungSteps x = full();
        int[] bad = {2, -1, Integer.MAX_VALUE, Integer.MIN_VALUE};
        for (int i : bad) {
            Check.due("keep " + i, x.keep(i), SungSteps.UNKNOWN);
            Check.due("goBack " + i, x.goBack(i), SungSteps.UNKNOWN);
        }
        Check.due("not kept", x.goBack(0), SungSteps.NOT);
        Check.due("not kept", x.goBack(1), SungSteps.NOT);
        x.keep(1);
        x.seed(4);
        Check.due("the other was not kept", x.goBack(0), SungSteps.NOT);
        Check.due("nothing changed", x.seed(4), 4);
        Check.due("this was", x.goBack(1), 1);
        Check.due("this was", x.seed(0), 0);
    }

    private static void imagesGo() {
        for (int sort = 0; sort < 3; sort++) {
            SungSteps x = full();
            x.keep(0);
            x.keep(1);
            if (sort == 0) x.tune();
            if (sort == 1) x.singers();
            if (sort == 2) x.tasks();
            Check.due("image 0 is gone by " + sort, x.goBack(0), SungSteps.NOT);
            Check.due("image 1 is gone by " + sort, x.goBack(1), SungSteps.NOT);
            x.keep(1);
            Check.due("kept anew", x.goBack(1), 1);
        }
    }
}
