import java.util.Arrays;

/** Tunes, those who sing them, and why it sounds wrong: the class of ../shared/DOC.md. */
public final class SungSteps {
    public static final int NONE = -1, UNKNOWN = -1000000001, OUTSIDE = -1000000002, NOT = -1000000003, FULL = -1000000004;

    private static final int MOST_BYTES = 400, MOST_NOTES = 40, MOST_SINGERS = 12, MOST_TASKS = 6, MOST_HOMES = 8;
    private static final int TYPES = 16, PARTS = 4, IMAGES = 2;

    private static final int NOT_THERE = 1, BAD_NUMBER = 2, TOO_MANY = 3, CLASH = 4;

    /* Each word ends with a blank, so that one search serves all lists. */
    private static final String TUNE_WORDS = "note breath ", SINGER_WORDS = "singer ", TASK_WORDS = "task ";
    private static final String KIND_WORDS = "plain true drifting narrow growling short deaf hushed ";
    private static final String PART_WORDS = "ear voice memory range ";

    private static final int TRUE = 1, DRIFTING = 2, NARROW = 3, GROWLING = 4, SHORT = 5, DEAF = 6, HUSHED = 7;
    private static final int EAR = 0, VOICE = 1, MEMORY = 2;

    /* PLAINLY is a model of our own, behind the three of the document: a voice, and no draws. */
    private static final int NO_MODEL = 0, PIANO = 1, VOICE_MODEL = 2, PLAINLY = 3;

    private static final int BY_STEPS = 0, BY_HOME = 1, BY_START = 2, BY_END = 3;
    private static final int NEAR = 50;

    private static final int OLDEST = 30, FARTHEST_KEY = 12, HIGHEST = 3600;

    private final Text text = new Text();
    private Melody melody = new Melody(), spareMelody = new Melody();
    private Trials trials = new Trials(), spareTrials = new Trials();
    private Singer[] spareSingers = newSingers();
    private final State now = new State();
    private final State[] images = {new State(), new State()};
    private final Search search = new Search();
    private final Crowd crowd = new Crowd();
    private final int[] book = new int[MOST_NOTES];
    private int bookSize = 0;
    private final Song tried = new Song();
    private final Singer pupil = new Singer();

    public SungSteps() {
    }

    // ---- texts

    public int feed(int n, long bytes) {
        if (!isWithin(n, 1, 8)) return OUTSIDE;
        if (text.length + n > MOST_BYTES) return FULL;
        for (int k = n - 1; k >= 0; k--) text.add((byte) (bytes >>> (8 * k)));
        return text.length;
    }

    public int tune() {
        spareMelody.readFrom(text);
        text.clear();
        if (text.hasFault()) return -10 - text.faultNumber;
        Melody old = melody;
        melody = spareMelody;
        spareMelody = old;
        dropSong();
        dropImages();
        return melody.size;
    }

    public int singers() {
        int count = readSingers();
        text.clear();
        if (text.hasFault()) return -10 - text.faultNumber;
        Singer[] old = now.singers;
        now.singers = spareSingers;
        now.singerCount = count;
        spareSingers = old;
        dropSong();
        dropImages();
        return count;
    }

    public int tasks() {
        spareTrials.readFrom(text);
        text.clear();
        if (text.hasFault()) return -10 - text.faultNumber;
        Trials old = trials;
        trials = spareTrials;
        spareTrials = old;
        dropResults();
        dropImages();
        return trials.size;
    }

    public int fault() {
        return text.faultAt;
    }

    public int told(int what) {
        switch (what) {
            case 0: return melody.size;
            case 1: return now.singerCount;
            case 2: return trials.size;
            case 3: return text.length;
            case 4: return now.song.singer;
            case 5: return bookSize;
            case 6: return crowd.size;
            case 7: return now.done;
            case 8: return now.passed;
            default: return OUTSIDE;
        }
    }

    public int note(int k, int what) {
        if (!isWithin(k, 0, melody.size - 1)) return UNKNOWN;
        switch (what) {
            case 0: return melody.dues[k];
            case 1: return melody.breaths[k];
            default: return OUTSIDE;
        }
    }

    public int singer(int s, int what) {
        if (!isSinger(s)) return UNKNOWN;
        Singer who = now.singers[s];
        switch (what) {
            case 0: return who.kind;
            case 1: return who.ear;
            case 2: return who.lean;
            case 3: return who.spread;
            case 4: return who.memory;
            case 5: return who.low;
            case 6: return who.high;
            case 7: return who.drift;
            default: return OUTSIDE;
        }
    }

    public int task(int t, int what) {
        if (!isTask(t)) return UNKNOWN;
        switch (what) {
            case 0: return trials.minutes[t];
            case 1: return trials.failPercents[t];
            case 2: return trials.passPercents[t];
            case 3: return trials.parts[t];
            default: return OUTSIDE;
        }
    }

    // ---- songs

    public int sing(int s, int model) {
        if (!isSinger(s)) return UNKNOWN;
        if (!isWithin(model, NO_MODEL, VOICE_MODEL)) return OUTSIDE;
        singInto(now.song, now.singers[s], model);
        now.song.singer = s;
        return now.song.points(BY_STEPS, melody);
    }

    public int height(int k) {
        if (!isWithin(k, 0, melody.size - 1)) return UNKNOWN;
        if (!hasSong()) return NOT;
        return now.song.heightAt(k);
    }

    public int slid() {
        if (!hasSong()) return NOT;
        return now.song.slide(melody);
    }

    public int score(int which) {
        if (!isWithin(which, BY_STEPS, BY_END)) return OUTSIDE;
        if (!hasSong()) return NOT;
        return now.song.points(which, melody);
    }

    public int calls() {
        if (!hasSong()) return NOT;
        return now.song.wrongBy(melody);
    }

    public int fooled(int what) {
        if (!isWithin(what, 0, 1)) return OUTSIDE;
        int hum = NONE, most = 0;
        for (int height = 0; height <= HIGHEST; height += 50) {
            int fits = melody.countNear(height);
            if (fits > most) {
                most = fits;
                hum = height;
            }
        }
        return what == 0 ? hum : most;
    }

    // ---- which part

    public int weigh(int type, int v) {
        if (!isType(type)) return UNKNOWN;
        if (!isWithin(v, 0, 99)) return OUTSIDE;
        int was = now.weights[type];
        now.weights[type] = v;
        return was;
    }

    public int result(int t, boolean passed) {
        if (!isTask(t)) return UNKNOWN;
        if (now.isDone(t)) return NOT;
        now.done |= 1 << t;
        if (passed) now.passed |= 1 << t;
        return Integer.bitCount(now.done);
    }

    public int forget() {
        int were = Integer.bitCount(now.done);
        dropResults();
        return were;
    }

    public long odds(int type) {
        if (isType(type)) return oddsNow(type);
        if (type != NONE) return UNKNOWN;
        long all = 0;
        for (int each = 0; each < TYPES; each++) all += oddsNow(each);
        return all;
    }

    public int next() {
        int best = NONE;
        long most = 0;
        for (int t = 0; t < trials.size; t++) {
            if (now.isDone(t)) continue;
            long sum = greatestWith(t, true) + greatestWith(t, false);
            if (best == NONE || sum > most || (sum == most && trials.minutes[t] < trials.minutes[best])) {
                best = t;
                most = sum;
            }
        }
        return best;
    }

    public int left(int q) {
        if (!isWithin(q, 1, 100)) return OUTSIDE;
        for (int type = 0; type < TYPES; type++) search.odds[0][type] = oddsNow(type);
        return search.fewestMinutes(trials, now.done, q);
    }

    public int alike(int type) {
        if (!isType(type)) return UNKNOWN;
        int set = 0;
        for (int other = 0; other < TYPES; other++) {
            if (!trials.canPart(type, other)) set |= 1 << other;
        }
        return set;
    }

    // ---- lessons, keys, ages

    public int lesson(int s, int part) {
        if (!isSinger(s) || !isWithin(part, 0, PARTS - 1)) return UNKNOWN;
        now.singers[s].learn(part);
        return plainPoints(now.singers[s]);
    }

    public int plan(int s, int n, int what) {
        if (!isSinger(s)) return UNKNOWN;
        if (!isWithin(n, 1, 4) || !isWithin(what, 0, n)) return OUTSIDE;
        int best = NONE, bestRow = 0;
        for (int row = 0; row < 1 << (2 * n); row++) {
            if (!isRising(row, n)) continue;
            pupil.copyFrom(now.singers[s]);
            for (int week = 1; week <= n; week++) pupil.learn(partOfWeek(row, n, week));
            int points = plainPoints(pupil);
            if (points > best) {
                best = points;
                bestRow = row;
            }
        }
        return what == 0 ? best : partOfWeek(bestRow, n, what);
    }

    public int key(int what) {
        if (!isWithin(what, 0, 1)) return OUTSIDE;
        int best = 0, most = NONE;
        for (int turn = 0; turn <= 2 * FARTHEST_KEY; turn++) {
            int steps = turn % 2 == 1 ? -(turn + 1) / 2 : turn / 2;
            int able = countAble(steps);
            if (able > most) {
                most = able;
                best = steps;
            }
        }
        return what == 0 ? best : most;
    }

    public int age(int s) {
        if (!isSinger(s)) return UNKNOWN;
        pupil.copyFrom(now.singers[s]);
        for (int years = 0; years <= OLDEST; years++) {
            singInto(tried, pupil, PLAINLY);
            int wrong = tried.wrongBy(melody);
            if ((wrong & (1 << BY_STEPS | 1 << BY_HOME)) == 0) return years;
            for (int part = 0; part < PARTS; part++) pupil.learn(part);
        }
        return NONE;
    }

    // ---- choirs, crowds

    public int passes(int n, int e) {
        if (!isWithin(n, 1, 16) || !isWithin(e, 0, 1)) return OUTSIDE;
        for (int p = 0; p < 30; p++) {
            if (1 << p >= answersNeeded(n, e, p)) return p;
        }
        return NONE;
    }

    public int pairs(int n) {
        if (!isWithin(n, 2, 16)) return OUTSIDE;
        int pairs = n * (n - 1) / 2;
        for (int p = 0; p < 30; p++) {
            if (1 << p >= pairs) return p;
        }
        return NONE;
    }

    public int join(int home) {
        if (!isHome(home)) return OUTSIDE;
        if (crowd.size >= MOST_HOMES) return FULL;
        crowd.add(home);
        return crowd.size;
    }

    public int part() {
        int were = crowd.size;
        crowd.size = 0;
        return were;
    }

    public int ends(int what) {
        if (!isWithin(what, 0, 1)) return OUTSIDE;
        if (crowd.size == 0) return NOT;
        crowd.settle();
        return what == 0 ? crowd.mean : crowd.turns;
    }

    public int round(int a, int b, int n, int what) {
        if (!isHome(a) || !isHome(b) || !isWithin(n, 0, 99) || !isWithin(what, 0, 1)) return OUTSIDE;
        int one = a, other = b;
        for (int turn = 0; turn < n; turn++) {
            int third = (other - one) / 3;
            one += third;
            other -= third;
        }
        return what == 0 ? one : other;
    }

    // ---- books, draws, images

    public int write(int height) {
        if (!isWithin(height, 0, 9999)) return OUTSIDE;
        if (bookSize >= MOST_NOTES) return FULL;
        book[bookSize] = height;
        bookSize++;
        return bookSize;
    }

    public int tear() {
        int had = bookSize;
        bookSize = 0;
        return had;
    }

    public int judge() {
        if (!hasSong()) return NOT;
        for (int k = 0; k < bookSize; k++) {
            int height = now.song.heightAt(k);
            if (height == NONE || !isNear(book[k] - height)) return k;
        }
        return NONE;
    }

    public int seed(int v) {
        if (v < 0) return OUTSIDE;
        int was = now.seed;
        now.seed = v;
        return was;
    }

    public int keep(int i) {
        if (!isWithin(i, 0, IMAGES - 1)) return UNKNOWN;
        images[i].copyFrom(now);
        images[i].isKept = true;
        return 1;
    }

    public int goBack(int i) {
        if (!isWithin(i, 0, IMAGES - 1)) return UNKNOWN;
        if (!images[i].isKept) return NOT;
        now.copyFrom(images[i]);
        return 1;
    }

    // ---- what the calls share

    private static boolean isWithin(int value, int low, int high) {
        return value >= low && value <= high;
    }

    private static boolean isNear(int difference) {
        return isWithin(difference, -NEAR, NEAR);
    }

    private static boolean isType(int type) {
        return isWithin(type, 0, TYPES - 1);
    }

    private static boolean isHome(int home) {
        return isWithin(home, -1200, 1200);
    }

    private boolean isSinger(int s) {
        return isWithin(s, 0, now.singerCount - 1);
    }

    private boolean isTask(int t) {
        return isWithin(t, 0, trials.size - 1);
    }

    private boolean hasSong() {
        return now.song.singer != NONE;
    }

    private void dropSong() {
        now.song.clear();
        bookSize = 0;
    }

    private void dropResults() {
        now.done = 0;
        now.passed = 0;
    }

    private void dropImages() {
        for (int i = 0; i < IMAGES; i++) images[i].isKept = false;
    }

    private static Singer[] newSingers() {
        Singer[] row = new Singer[MOST_SINGERS];
        for (int s = 0; s < MOST_SINGERS; s++) row[s] = new Singer();
        return row;
    }

    /** Reads the spare row, so that a fault leaves those who sing as they are. */
    private int readSingers() {
        int count = 0;
        text.open();
        for (int clause = 0; clause < MOST_BYTES && !text.isOver(); clause++) {
            text.readWord(SINGER_WORDS);
            if (count >= MOST_SINGERS) {
                text.blame(TOO_MANY);
            } else {
                spareSingers[count].readFrom(text);
                count++;
            }
        }
        return count;
    }

    private void singInto(Song song, Singer who, int model) {
        song.size = melody.size;
        if (who.kind == HUSHED || who.kind == GROWLING) {
            Arrays.fill(song.heights, who.kind == HUSHED ? NONE : 100 * who.low);
            return;
        }
        int aim = 0, sinceBreath = 0;
        for (int k = 0; k < melody.size; k++) {
            if (melody.breaths[k] == 1) sinceBreath = 0;
            aim = k == 0 ? melody.dues[0] + startOff(model) : aim + who.moveOfAim(melody.rise(k), sinceBreath);
            song.heights[k] = who.heldToRange(aim + who.leanSung() + waver(who, k, model));
            sinceBreath++;
        }
    }

    private int startOff(int model) {
        if (model == NO_MODEL) return (now.draw(13) - 6) * 100;
        if (model == PIANO) return (now.draw(2) - 1) * 1200;
        return 0;
    }

    private int waver(Singer who, int k, int model) {
        if (who.kind == TRUE) return 0;
        if (model == PLAINLY) return k % 2 == 0 ? who.spread : -who.spread;
        return now.draw(2 * who.spread + 1) - who.spread;
    }

    private int plainPoints(Singer who) {
        singInto(tried, who, PLAINLY);
        return tried.points(BY_STEPS, melody) + tried.points(BY_HOME, melody);
    }

    private static int partOfWeek(int row, int weeks, int week) {
        return row >> (2 * (weeks - week)) & (PARTS - 1);
    }

    /**
     * Each part moves what no other part moves, so the order of the weeks changes nothing: of all rows
     * with the same parts the first is the one that never falls, and the others need no look.
     */
    private static boolean isRising(int row, int weeks) {
        for (int week = 2; week <= weeks; week++) {
            if (partOfWeek(row, weeks, week) < partOfWeek(row, weeks, week - 1)) return false;
        }
        return true;
    }

    private int countAble(int steps) {
        int able = 0;
        for (int s = 0; s < now.singerCount; s++) {
            Singer who = now.singers[s];
            if (who.kind == GROWLING || who.kind == HUSHED) continue;
            if (melody.fitsWithin(100 * (who.low - steps), 100 * (who.highSung() - steps))) able++;
        }
        return able;
    }

    private long oddsNow(int type) {
        long product = now.weights[type];
        for (int t = 0; t < trials.size; t++) {
            if (now.isDone(t)) product *= trials.percent(t, type, now.isPassed(t));
        }
        return product;
    }

    private long greatestWith(int t, boolean passed) {
        long greatest = 0;
        for (int type = 0; type < TYPES; type++) {
            greatest = Math.max(greatest, oddsNow(type) * trials.percent(t, type, passed));
        }
        return greatest;
    }

    /**
     * How many rows of p answers must be told apart. With a slip, each of n may cause p + 1 rows; when n is
     * odd the first pass can't halve them, and the larger half costs p - 1 rows more (the game of Ulam with one lie).
     */
    private static int answersNeeded(int n, int e, int p) {
        if (e == 0 || n == 1) return n;
        return n * (p + 1) + (n % 2 == 1 ? p - 1 : 0);
    }

    /** The text as fed, and a reader of it that keeps the first fault: behind a fault it reads nothing more. */
    private static final class Text {
        final byte[] bytes = new byte[MOST_BYTES];
        int length = 0;
        int at = 0, tokenAt = 0;
        int faultNumber = 0, faultAt = NONE;

        void add(byte one) {
            if (length >= MOST_BYTES) return;
            bytes[length] = one;
            length++;
        }

        void clear() {
            length = 0;
        }

        void open() {
            at = 0;
            tokenAt = 0;
            faultNumber = 0;
            faultAt = NONE;
        }

        boolean hasFault() {
            return faultNumber != 0;
        }

        void blame(int number) {
            if (hasFault()) return;
            faultNumber = number;
            faultAt = tokenAt;
        }

        /** Whether there is nothing more to read: the end, or a fault. */
        boolean isOver() {
            findToken();
            return hasFault() || at >= length;
        }

        private void findToken() {
            while (at < length && bytes[at] == ' ') at++;
            tokenAt = at;
        }

        /** Steps over the token's signs from low to high: how many. */
        private int stepOver(char low, char high) {
            while (at < length && isWithin(bytes[at], low, high)) at++;
            return at - tokenAt;
        }

        /** The number of the word that comes, in a list of words; NONE with a fault. */
        int readWord(String words) {
            if (hasFault()) return NONE;
            findToken();
            stepOver('a', 'z');
            int number = numberInList(words);
            if (number == NONE) blame(NOT_THERE);
            return number;
        }

        private int numberInList(String words) {
            int number = 0, from = 0;
            for (int k = 0; k < words.length(); k++) {
                if (words.charAt(k) != ' ') continue;
                if (isToken(words, from, k)) return number;
                number++;
                from = k + 1;
            }
            return NONE;
        }

        private boolean isToken(String words, int from, int to) {
            if (to - from != at - tokenAt) return false;
            for (int k = from; k < to; k++) {
                if (words.charAt(k) != bytes[tokenAt + k - from]) return false;
            }
            return true;
        }

        /** The number that comes; the low bound with a fault. */
        int readNumber(int low, int high) {
            if (hasFault()) return low;
            findToken();
            int figures = stepOver('0', '9');
            if (figures == 0) {
                blame(NOT_THERE);
                return low;
            }
            int value = figures > 3 ? NONE : valueOfToken();
            if (isWithin(value, low, high)) return value;
            blame(BAD_NUMBER);
            return low;
        }

        private int valueOfToken() {
            int value = 0;
            for (int k = tokenAt; k < at; k++) value = 10 * value + bytes[k] - '0';
            return value;
        }

        boolean isLetterNext() {
            findToken();
            return at < length && isWithin(bytes[at], 'a', 'z');
        }

        /** Reads a sign if it comes: whether it did. */
        boolean readIf(char sign) {
            if (hasFault()) return false;
            findToken();
            if (at >= length || bytes[at] != sign) return false;
            at++;
            return true;
        }

        void readSign(char sign) {
            if (!readIf(sign)) blame(NOT_THERE);
        }
    }

    private static final class Melody {
        final int[] dues = new int[MOST_NOTES];
        final int[] breaths = new int[MOST_NOTES];
        int size = 0;

        void readFrom(Text text) {
            size = 0;
            int breath = 0;
            text.open();
            for (int clause = 0; clause < MOST_BYTES && !text.isOver(); clause++) {
                int word = text.readWord(TUNE_WORDS);
                if (word == 1) {
                    breath = 1;
                } else if (size >= MOST_NOTES) {
                    text.blame(TOO_MANY);
                } else {
                    dues[size] = 100 * text.readNumber(0, 36);
                    breaths[size] = breath;
                    breath = 0;
                    size++;
                }
                text.readSign(';');
            }
        }

        /** What a note behind the first is due more than the one ahead. */
        int rise(int k) {
            return isWithin(k, 1, size - 1) ? dues[k] - dues[k - 1] : 0;
        }

        int countNear(int height) {
            int near = 0;
            for (int k = 0; k < size; k++) {
                if (isNear(dues[k] - height)) near++;
            }
            return near;
        }

        boolean fitsWithin(int low, int high) {
            for (int k = 0; k < size; k++) {
                if (!isWithin(dues[k], low, high)) return false;
            }
            return true;
        }
    }

    private static final class Singer {
        int kind = 0, ear = 0, lean = 0, spread = 0, memory = 1, low = 0, high = 0, drift = 0;

        void readFrom(Text text) {
            kind = text.readWord(KIND_WORDS);
            ear = text.readNumber(0, 99);
            lean = text.readNumber(0, 99) - 50;
            spread = text.readNumber(0, 99);
            memory = text.readNumber(1, 40);
            low = text.readNumber(0, 36);
            high = text.readNumber(0, 36);
            if (high < low) text.blame(CLASH);
            drift = text.readNumber(0, 40) - 20;
            text.readSign(';');
        }

        void copyFrom(Singer other) {
            kind = other.kind;
            ear = other.ear;
            lean = other.lean;
            spread = other.spread;
            memory = other.memory;
            low = other.low;
            high = other.high;
            drift = other.drift;
        }

        /** A week of a part. */
        void learn(int part) {
            if (part == EAR) {
                ear = Math.max(0, ear - (ear / 4 + 1));
            } else if (part == VOICE) {
                lean -= lean / 3;
                spread -= spread / 3;
            } else if (part == MEMORY) {
                memory = Math.min(40, memory + 2);
            } else {
                high = Math.min(36, high + 1);
                low = Math.max(0, low - 1);
            }
        }

        int leanSung() {
            return kind == TRUE ? 0 : lean;
        }

        int driftSung() {
            if (kind == TRUE) return 0;
            return kind == DRIFTING ? 2 * drift : drift;
        }

        int highSung() {
            return kind == NARROW ? Math.min(high, low + 5) : high;
        }

        boolean isPastMemory(int sinceBreath) {
            if (kind == TRUE) return false;
            return sinceBreath >= (kind == SHORT ? Math.min(memory, 3) : memory);
        }

        boolean hears(int rise) {
            if (kind == TRUE) return true;
            return Math.abs(rise) > (kind == DEAF ? 2 * ear : ear) + 50;
        }

        /** By how much the aim moves from the note ahead; who has forgotten the tune stays without a drift. */
        int moveOfAim(int rise, int sinceBreath) {
            if (isPastMemory(sinceBreath)) return 0;
            return (hears(rise) ? rise : 0) + driftSung();
        }

        int heldToRange(int height) {
            return Math.max(100 * low, Math.min(100 * highSung(), height));
        }
    }

    /** Heights as sung by one; no song while nobody has sung it. */
    private static final class Song {
        final int[] heights = new int[MOST_NOTES];
        int size = 0;
        int singer = NONE;

        void clear() {
            size = 0;
            singer = NONE;
        }

        void copyFrom(Song other) {
            System.arraycopy(other.heights, 0, heights, 0, MOST_NOTES);
            size = other.size;
            singer = other.singer;
        }

        /** NONE beyond the song and where it was hushed. */
        int heightAt(int k) {
            return isWithin(k, 0, size - 1) ? heights[k] : NONE;
        }

        boolean isHeard() {
            return heightAt(0) != NONE;
        }

        private int homeAt(int k, Melody melody) {
            return isWithin(k, 0, size - 1) ? heights[k] - melody.dues[k] : 0;
        }

        int slide(Melody melody) {
            return isHeard() ? homeAt(size - 1, melody) - homeAt(0, melody) : 0;
        }

        int points(int which, Melody melody) {
            if (!isHeard()) return 0;
            if (which == BY_STEPS) return stepsRight(melody);
            if (which == BY_HOME) return homesRight(melody);
            return isNear(which == BY_START ? homeAt(0, melody) : slide(melody)) ? 1 : 0;
        }

        private int stepsRight(Melody melody) {
            int right = 0;
            for (int k = 1; k < size; k++) {
                if (isNear(homeAt(k, melody) - homeAt(k - 1, melody))) right++;
            }
            return right;
        }

        private int homesRight(Melody melody) {
            int right = 0;
            for (int k = 0; k < size; k++) {
                if (isNear(homeAt(k, melody))) right++;
            }
            return right;
        }

        /** The scores that call it wrong, as a set. */
        int wrongBy(Melody melody) {
            int set = 0;
            for (int which = BY_STEPS; which <= BY_END; which++) {
                if (!isHeard() || points(which, melody) != fullPoints(which)) set |= 1 << which;
            }
            return set;
        }

        private int fullPoints(int which) {
            if (which == BY_STEPS) return size - 1;
            return which == BY_HOME ? size : 1;
        }
    }

    /** What an image keeps; the calls work on one of these, and the images are two more. */
    private static final class State {
        final Song song = new Song();
        final int[] weights = new int[TYPES];
        Singer[] singers = newSingers();
        int singerCount = 0;
        int done = 0, passed = 0;
        int seed = 0;
        boolean isKept = false;

        State() {
            Arrays.fill(weights, 1);
        }

        void copyFrom(State other) {
            song.copyFrom(other.song);
            System.arraycopy(other.weights, 0, weights, 0, TYPES);
            for (int s = 0; s < MOST_SINGERS; s++) singers[s].copyFrom(other.singers[s]);
            singerCount = other.singerCount;
            done = other.done;
            passed = other.passed;
            seed = other.seed;
        }

        boolean isDone(int t) {
            return (done >> t & 1) == 1;
        }

        boolean isPassed(int t) {
            return (passed >> t & 1) == 1;
        }

        int draw(int n) {
            seed = (int) (seed * 1103515245L + 12345L & 0x7fffffffL);
            return n > 0 ? seed / 65536 % n : 0;
        }
    }

    /** The tasks. */
    private static final class Trials {
        final int[] minutes = new int[MOST_TASKS];
        final int[] failPercents = new int[MOST_TASKS];
        final int[] passPercents = new int[MOST_TASKS];
        final int[] parts = new int[MOST_TASKS];
        int size = 0;

        void readFrom(Text text) {
            size = 0;
            text.open();
            for (int clause = 0; clause < MOST_BYTES && !text.isOver(); clause++) {
                text.readWord(TASK_WORDS);
                if (size >= MOST_TASKS) {
                    text.blame(TOO_MANY);
                } else {
                    minutes[size] = text.readNumber(1, 30);
                    failPercents[size] = text.readNumber(0, 49);
                    passPercents[size] = text.readNumber(0, 49);
                    parts[size] = text.isLetterNext() ? readParts(text) : 0;
                    size++;
                }
                text.readSign(';');
            }
        }

        private static int readParts(Text text) {
            int set = 0;
            for (int k = 0; k <= PARTS && (k == 0 || text.readIf(',')); k++) {
                int part = text.readWord(PART_WORDS);
                if (part == NONE) return set;
                if ((set >> part & 1) == 1) text.blame(CLASH);
                set |= 1 << part;
            }
            return set;
        }

        private boolean isBeyond(int t, int type) {
            return isWithin(t, 0, size - 1) && (parts[t] & type) != 0;
        }

        /** Of a hundred of a type, how many pass the task, or fail it. */
        int percent(int t, int type, boolean passed) {
            if (!isWithin(t, 0, size - 1)) return 0;
            if (isBeyond(t, type)) return passed ? passPercents[t] : 100 - passPercents[t];
            return passed ? 100 - failPercents[t] : failPercents[t];
        }

        boolean canPart(int type, int other) {
            for (int t = 0; t < size; t++) {
                if (isBeyond(t, type) != isBeyond(t, other)) return true;
            }
            return false;
        }
    }

    /** The fewest minutes in the worst case. Results are coded by threes: 0 not done, 1 passed, 2 failed. */
    private static final class Search {
        private static final int[] THREES = {1, 3, 9, 27, 81, 243};
        private static final int UNSEEN = -2;

        /* Row d: the odds with d results more than there are; the caller fills row 0. */
        final long[][] odds = new long[MOST_TASKS + 1][TYPES];
        final int[] fewest = new int[729];
        Trials trials = null;
        int q = 100;

        int fewestMinutes(Trials given, int done, int percent) {
            trials = given;
            q = percent;
            Arrays.fill(fewest, UNSEEN);
            return fewestFrom(0, done, 0);
        }

        private boolean isKnown(long[] row) {
            long all = 0, greatest = 0;
            for (int type = 0; type < TYPES; type++) {
                all += row[type];
                greatest = Math.max(greatest, row[type]);
            }
            return greatest * 100 >= q * all;
        }

        private int fewestFrom(int code, int done, int depth) {
            if (!isWithin(depth, 0, MOST_TASKS) || trials == null) return NONE;
            if (isKnown(odds[depth])) return 0;
            int best = NONE;
            for (int t = 0; t < trials.size; t++) {
                if ((done >> t & 1) == 1) continue;
                int ifPassed = fewestAfter(code, done, depth, t, true);
                if (ifPassed == NONE) continue;
                int ifFailed = fewestAfter(code, done, depth, t, false);
                if (ifFailed == NONE) continue;
                int minutes = trials.minutes[t] + Math.max(ifPassed, ifFailed);
                if (best == NONE || minutes < best) best = minutes;
            }
            return best;
        }

        private int fewestAfter(int code, int done, int depth, int t, boolean passed) {
            int then = code + (passed ? 1 : 2) * THREES[t];
            if (depth >= MOST_TASKS || !isWithin(then, 0, fewest.length - 1)) return NONE;
            if (fewest[then] == UNSEEN) {
                fillOdds(depth + 1, t, passed);
                fewest[then] = fewestFrom(then, done | 1 << t, depth + 1);
            }
            return fewest[then];
        }

        /** Type 0 lacks nothing and the last type lacks all, so these two stand for what all types may do. */
        private void fillOdds(int depth, int t, boolean passed) {
            if (!isWithin(depth, 1, MOST_TASKS) || trials == null) return;
            int able = trials.percent(t, 0, passed), unable = trials.percent(t, TYPES - 1, passed);
            int parts = trials.parts[t];
            long[] ahead = odds[depth - 1], row = odds[depth];
            for (int type = 0; type < TYPES; type++) {
                row[type] = ahead[type] * ((parts & type) == 0 ? able : unable);
            }
        }
    }

    private static final class Crowd {
        /* Each turn that changes a home brings the highest or the lowest nearer, so 2400 turns are enough. */
        private static final int MOST_TURNS = 5000;

        final int[] homes = new int[MOST_HOMES];
        final int[] moved = new int[MOST_HOMES];
        int size = 0;
        int mean = 0, turns = 0;

        void add(int home) {
            if (size >= MOST_HOMES) return;
            homes[size] = home;
            size++;
        }

        /** Finds the mean at the end and the turns till then; the homes stay as told. */
        void settle() {
            System.arraycopy(homes, 0, moved, 0, MOST_HOMES);
            mean = meanOfMoved();
            turns = 0;
            while (turns < MOST_TURNS && changesInTurn()) {
                turns++;
                mean = meanOfMoved();
            }
        }

        private int meanOfMoved() {
            int sum = 0;
            for (int k = 0; k < size; k++) sum += moved[k];
            return size > 0 ? sum / size : 0;
        }

        private boolean changesInTurn() {
            boolean changed = false;
            for (int k = 0; k < size; k++) {
                int half = (mean - moved[k]) / 2;
                moved[k] += half;
                changed |= half != 0;
            }
            return changed;
        }
    }
}
