import java.util.ArrayList;
import java.util.Arrays;
import java.util.HashMap;
import java.util.HashSet;
import java.util.List;
import java.util.Map;
import java.util.Set;

/**
 * The document read a second time, as slowly and plainly as may be and with the whole Java library:
 * AgreeTest holds the class against it over long runs of calls.
 */
final class SecondReading {
    static final int NONE = -1, UNKNOWN = -1000000001, OUTSIDE = -1000000002, NOT = -1000000003, FULL = -1000000004;
    private static final List<String> KINDS =
        List.of("plain", "true", "drifting", "narrow", "growling", "short", "deaf", "hushed");
    private static final List<String> PARTS = List.of("ear", "voice", "memory", "range");
    private static final Map<String, Boolean> GAMES = new HashMap<>();

    private StringBuilder text = new StringBuilder();
    private int faultAt = NONE;
    private List<int[]> notes = new ArrayList<>();
    private List<Map<String, Integer>> singers = new ArrayList<>();
    private List<int[]> tasks = new ArrayList<>();
    private Integer sungBy = null;
    private List<Integer> heights = new ArrayList<>();
    private Map<Integer, Boolean> results = new HashMap<>();
    private int[] weights = new int[16];
    private long seed = 0;
    private List<Integer> book = new ArrayList<>();
    private List<Integer> crowd = new ArrayList<>();
    private Object[][] images = new Object[2][];

    SecondReading() {
        Arrays.fill(weights, 1);
    }

    // ---- texts: all tokens first, then the clauses as rows of slots

    private record Token(char sort, int at, String word) {
    }

    private static final class Fault extends RuntimeException {
        final int number, at;

        Fault(int number, int at) {
            this.number = number;
            this.at = at;
        }
    }

    private static List<Token> tokensOf(String text) {
        List<Token> row = new ArrayList<>();
        int at = 0;
        while (at < text.length()) {
            char c = text.charAt(at);
            int end = at + 1;
            char sort = c >= 'a' && c <= 'z' ? 'w' : c >= '0' && c <= '9' ? 'n' : 's';
            if (sort == 'w') while (end < text.length() && text.charAt(end) >= 'a' && text.charAt(end) <= 'z') end++;
            if (sort == 'n') while (end < text.length() && text.charAt(end) >= '0' && text.charAt(end) <= '9') end++;
            if (c != ' ') row.add(new Token(sort, at, text.substring(at, end)));
            at = end;
        }
        row.add(new Token('e', text.length(), ""));
        return row;
    }

    private static int figure(Token token, int low, int high) {
        if (token.sort != 'n') throw new Fault(1, token.at);
        if (token.word.length() > 3) throw new Fault(2, token.at);
        int value = Integer.parseInt(token.word);
        if (value < low || value > high) throw new Fault(2, token.at);
        return value;
    }

    private static void expect(Token token, String word) {
        if (token.sort == 'e' || !token.word.equals(word)) throw new Fault(1, token.at);
    }

    private static int oneOf(Token token, List<String> words) {
        if (token.sort != 'w' || !words.contains(token.word)) throw new Fault(1, token.at);
        return words.indexOf(token.word);
    }

    private static List<int[]> notesOf(String text) {
        List<int[]> row = new ArrayList<>();
        List<Token> tokens = tokensOf(text);
        int breath = 0, k = 0;
        while (tokens.get(k).sort != 'e') {
            if (oneOf(tokens.get(k), List.of("note", "breath")) == 1) {
                breath = 1;
                expect(tokens.get(k + 1), ";");
                k += 2;
                continue;
            }
            if (row.size() == 40) throw new Fault(3, tokens.get(k).at);
            row.add(new int[] {100 * figure(tokens.get(k + 1), 0, 36), breath});
            breath = 0;
            expect(tokens.get(k + 2), ";");
            k += 3;
        }
        return row;
    }

    private static List<Map<String, Integer>> singersOf(String text) {
        List<Map<String, Integer>> row = new ArrayList<>();
        List<Token> tokens = tokensOf(text);
        String[] names = {"E", "A", "B", "M", "L", "H", "D"};
        int[] low = {0, 0, 0, 1, 0, 0, 0}, high = {99, 99, 99, 40, 36, 36, 40};
        int k = 0;
        while (tokens.get(k).sort != 'e') {
            expect(tokens.get(k), "singer");
            if (row.size() == 12) throw new Fault(3, tokens.get(k).at);
            Map<String, Integer> one = new HashMap<>();
            one.put("KIND", oneOf(tokens.get(k + 1), KINDS));
            for (int j = 0; j < 7; j++) {
                Token token = tokens.get(k + 2 + j);
                one.put(names[j], figure(token, low[j], high[j]));
                if (j == 5 && one.get("H") < one.get("L")) throw new Fault(4, token.at);
            }
            expect(tokens.get(k + 9), ";");
            one.put("A", one.get("A") - 50);
            one.put("D", one.get("D") - 20);
            row.add(one);
            k += 10;
        }
        return row;
    }

    private static List<int[]> tasksOf(String text) {
        List<int[]> row = new ArrayList<>();
        List<Token> tokens = tokensOf(text);
        int k = 0;
        while (tokens.get(k).sort != 'e') {
            expect(tokens.get(k), "task");
            if (row.size() == 6) throw new Fault(3, tokens.get(k).at);
            int minutes = figure(tokens.get(k + 1), 1, 30);
            int p = figure(tokens.get(k + 2), 0, 49), q = figure(tokens.get(k + 3), 0, 49);
            k += 4;
            Set<Integer> parts = new HashSet<>();
            if (tokens.get(k).sort == 'w') {
                while (true) {
                    int part = oneOf(tokens.get(k), PARTS);
                    if (!parts.add(part)) throw new Fault(4, tokens.get(k).at);
                    k++;
                    if (!tokens.get(k).word.equals(",")) break;
                    k++;
                }
            }
            expect(tokens.get(k), ";");
            k++;
            int set = 0;
            for (int part : parts) set += 1 << part;
            row.add(new int[] {minutes, p, q, set});
        }
        return row;
    }

    private String takeText() {
        String told = text.toString();
        text = new StringBuilder();
        faultAt = NONE;
        return told;
    }

    private int faulty(Fault fault) {
        faultAt = fault.at;
        return -10 - fault.number;
    }

    int feed(int n, long bytes) {
        if (n < 1 || n > 8) return OUTSIDE;
        if (text.length() > 400 - n) return FULL;
        String eight = "";
        for (int k = 0; k < 8; k++) eight = (char) (bytes >>> (8 * k) & 255) + eight;
        text.append(eight.substring(8 - n));
        return text.length();
    }

    int tune() {
        try {
            notes = notesOf(takeText());
        } catch (Fault fault) {
            return faulty(fault);
        }
        noSong();
        return notes.size();
    }

    int singers() {
        try {
            singers = singersOf(takeText());
        } catch (Fault fault) {
            return faulty(fault);
        }
        noSong();
        return singers.size();
    }

    int tasks() {
        try {
            tasks = tasksOf(takeText());
        } catch (Fault fault) {
            return faulty(fault);
        }
        results = new HashMap<>();
        images = new Object[2][];
        return tasks.size();
    }

    private void noSong() {
        sungBy = null;
        heights = new ArrayList<>();
        book = new ArrayList<>();
        images = new Object[2][];
    }

    int fault() {
        return faultAt;
    }

    int told(int what) {
        int done = 0, passed = 0;
        for (int t : results.keySet()) {
            done += 1 << t;
            if (results.get(t)) passed += 1 << t;
        }
        int[] all = {notes.size(), singers.size(), tasks.size(), text.length(), sungBy == null ? NONE : sungBy,
            book.size(), crowd.size(), done, passed};
        return what < 0 || what >= all.length ? OUTSIDE : all[what];
    }

    int note(int k, int what) {
        if (k < 0 || k >= notes.size()) return UNKNOWN;
        return what < 0 || what > 1 ? OUTSIDE : notes.get(k)[what];
    }

    int singer(int s, int what) {
        if (s < 0 || s >= singers.size()) return UNKNOWN;
        if (what < 0 || what > 7) return OUTSIDE;
        return singers.get(s).get(List.of("KIND", "E", "A", "B", "M", "L", "H", "D").get(what));
    }

    int task(int t, int what) {
        if (t < 0 || t >= tasks.size()) return UNKNOWN;
        return what < 0 || what > 3 ? OUTSIDE : tasks.get(t)[what];
    }

    // ---- songs

    private int draw(int n) {
        seed = (seed * 1103515245 + 12345) % (1L << 31);
        return (int) (seed / 65536 % n);
    }

    /** The heights of a song; plainly: with a voice and no draws. */
    private List<Integer> sung(Map<String, Integer> one, int model, boolean plainly) {
        String kind = KINDS.get(one.get("KIND"));
        List<Integer> row = new ArrayList<>();
        List<Integer> aims = new ArrayList<>();
        int low = one.get("L"), high = one.get("H");
        if (kind.equals("narrow") && high > low + 5) high = low + 5;
        for (int k = 0; k < notes.size(); k++) {
            if (kind.equals("hushed")) {
                row.add(NONE);
                continue;
            }
            if (kind.equals("growling")) {
                row.add(100 * low);
                continue;
            }
            int due = notes.get(k)[0];
            if (k == 0) {
                int more = 0;
                if (!plainly && model == 0) more = 100 * (draw(13) - 6);
                if (!plainly && model == 1) more = 1200 * (draw(2) - 1);
                aims.add(due + more);
            } else {
                aims.add(aimBehind(one, kind, aims.get(k - 1), k));
            }
            int spread = one.get("B"), lean = one.get("A"), off;
            if (kind.equals("true")) {
                lean = 0;
                off = 0;
            } else if (plainly) {
                off = k % 2 == 0 ? spread : -spread;
            } else {
                off = draw(2 * spread + 1) - spread;
            }
            int height = aims.get(k) + lean + off;
            if (height < 100 * low) height = 100 * low;
            if (height > 100 * high) height = 100 * high;
            row.add(height);
        }
        return row;
    }

    private int aimBehind(Map<String, Integer> one, String kind, int ahead, int k) {
        int more = notes.get(k)[0] - notes.get(k - 1)[0];
        if (kind.equals("true")) return ahead + more;
        int begin = k;
        while (begin > 0 && notes.get(begin)[1] == 0) begin--;
        int memory = one.get("M");
        if (kind.equals("short") && memory > 3) memory = 3;
        if (k - begin >= memory) return ahead;
        int drift = one.get("D"), ear = one.get("E");
        if (kind.equals("drifting")) drift += drift;
        if (kind.equals("deaf")) ear += ear;
        if (more <= ear + 50 && -more <= ear + 50) return ahead + drift;
        return ahead + more + drift;
    }

    private boolean noSound(List<Integer> row) {
        return row.isEmpty() || row.contains(NONE);
    }

    private int home(List<Integer> row, int k) {
        return row.get(k) - notes.get(k)[0];
    }

    private int slidOf(List<Integer> row) {
        return noSound(row) ? 0 : home(row, row.size() - 1) - home(row, 0);
    }

    private int[] scores(List<Integer> row) {
        int[] all = new int[4];
        if (noSound(row)) return all;
        for (int k = 0; k < row.size(); k++) {
            if (Math.abs(home(row, k)) <= 50) all[1]++;
            if (k == 0) continue;
            int step = row.get(k) - row.get(k - 1), due = notes.get(k)[0] - notes.get(k - 1)[0];
            if (Math.abs(step - due) <= 50) all[0]++;
        }
        all[2] = Math.abs(home(row, 0)) <= 50 ? 1 : 0;
        all[3] = Math.abs(slidOf(row)) <= 50 ? 1 : 0;
        return all;
    }

    private int wrong(List<Integer> row) {
        if (noSound(row)) return 15;
        int[] all = scores(row), most = {row.size() - 1, row.size(), 1, 1};
        int set = 0;
        for (int k = 0; k < 4; k++) if (all[k] < most[k]) set += 1 << k;
        return set;
    }

    int sing(int s, int model) {
        if (s < 0 || s >= singers.size()) return UNKNOWN;
        if (model < 0 || model > 2) return OUTSIDE;
        heights = sung(singers.get(s), model, false);
        sungBy = s;
        return scores(heights)[0];
    }

    int height(int k) {
        if (k < 0 || k >= notes.size()) return UNKNOWN;
        return sungBy == null ? NOT : heights.get(k);
    }

    int slid() {
        return sungBy == null ? NOT : slidOf(heights);
    }

    int score(int which) {
        if (which < 0 || which > 3) return OUTSIDE;
        return sungBy == null ? NOT : scores(heights)[which];
    }

    int calls() {
        return sungBy == null ? NOT : wrong(heights);
    }

    int fooled(int what) {
        if (what < 0 || what > 1) return OUTSIDE;
        int[] best = {NONE, 0};
        for (int hum = 3600; hum >= 0; hum -= 50) {
            int count = 0;
            for (int[] note : notes) if (Math.abs(note[0] - hum) <= 50) count++;
            if (count > 0 && count >= best[1]) best = new int[] {hum, count};
        }
        return best[what];
    }

    // ---- which part

    int weigh(int type, int v) {
        if (type < 0 || type > 15) return UNKNOWN;
        if (v < 0 || v > 99) return OUTSIDE;
        int was = weights[type];
        weights[type] = v;
        return was;
    }

    int result(int t, boolean passed) {
        if (t < 0 || t >= tasks.size()) return UNKNOWN;
        if (results.containsKey(t)) return NOT;
        results.put(t, passed);
        return results.size();
    }

    int forget() {
        int were = results.size();
        results = new HashMap<>();
        return were;
    }

    private long oddsWith(int type, Map<Integer, Boolean> given) {
        long product = weights[type];
        for (int t : given.keySet()) {
            int[] task = tasks.get(t);
            int ofPass = (type & task[3]) == 0 ? 100 - task[1] : task[2];
            product *= given.get(t) ? ofPass : 100 - ofPass;
        }
        return product;
    }

    long odds(int type) {
        if (type < -1 || type > 15) return UNKNOWN;
        if (type >= 0) return oddsWith(type, results);
        long sum = 0;
        for (int each = 0; each < 16; each++) sum += oddsWith(each, results);
        return sum;
    }

    private static Map<Integer, Boolean> with(Map<Integer, Boolean> given, int t, boolean passed) {
        Map<Integer, Boolean> more = new HashMap<>(given);
        more.put(t, passed);
        return more;
    }

    int next() {
        long[] best = null;
        for (int t = 0; t < tasks.size(); t++) {
            if (results.containsKey(t)) continue;
            long sum = 0;
            for (boolean passed : new boolean[] {true, false}) {
                long greatest = 0;
                for (int type = 0; type < 16; type++) {
                    greatest = Math.max(greatest, oddsWith(type, with(results, t, passed)));
                }
                sum += greatest;
            }
            long[] row = {-sum, tasks.get(t)[0], t};
            if (best == null || Arrays.compare(row, best) < 0) best = row;
        }
        return best == null ? NONE : (int) best[2];
    }

    int left(int q) {
        if (q < 1 || q > 100) return OUTSIDE;
        long minutes = leftWith(results, q);
        return minutes > 1000000 ? NONE : (int) minutes;
    }

    private long leftWith(Map<Integer, Boolean> given, int q) {
        long sum = 0, greatest = 0;
        for (int type = 0; type < 16; type++) {
            sum += oddsWith(type, given);
            greatest = Math.max(greatest, oddsWith(type, given));
        }
        if (sum == 0 || greatest * 100 >= q * sum) return 0;
        long best = 1000000000L;
        for (int t = 0; t < tasks.size(); t++) {
            if (given.containsKey(t)) continue;
            long worst = Math.max(leftWith(with(given, t, true), q), leftWith(with(given, t, false), q));
            best = Math.min(best, tasks.get(t)[0] + worst);
        }
        return best;
    }

    int alike(int type) {
        if (type < 0 || type > 15) return UNKNOWN;
        int set = 0;
        for (int other = 0; other < 16; other++) {
            boolean parted = false;
            for (int[] task : tasks) if ((type & task[3]) == 0 ^ (other & task[3]) == 0) parted = true;
            if (!parted) set += 1 << other;
        }
        return set;
    }

    // ---- lessons, keys, ages

    private static Map<String, Integer> taught(Map<String, Integer> one, int part) {
        Map<String, Integer> then = new HashMap<>(one);
        int e = one.get("E");
        if (part == 0) then.put("E", Math.max(0, e - e / 4 - 1));
        if (part == 1) then.put("A", one.get("A") - one.get("A") / 3);
        if (part == 1) then.put("B", one.get("B") - one.get("B") / 3);
        if (part == 2) then.put("M", Math.min(40, one.get("M") + 2));
        if (part == 3) then.put("H", Math.min(36, one.get("H") + 1));
        if (part == 3) then.put("L", Math.max(0, one.get("L") - 1));
        return then;
    }

    private int plainly(Map<String, Integer> one) {
        int[] all = scores(sung(one, 2, true));
        return all[0] + all[1];
    }

    int lesson(int s, int part) {
        if (s < 0 || s >= singers.size() || part < 0 || part > 3) return UNKNOWN;
        singers.set(s, taught(singers.get(s), part));
        return plainly(singers.get(s));
    }

    int plan(int s, int n, int what) {
        if (s < 0 || s >= singers.size()) return UNKNOWN;
        if (n < 1 || n > 4 || what < 0 || what > n) return OUTSIDE;
        return bestRow(singers.get(s), n).get(what);
    }

    /** The points first, then the parts; all rows in their order, none left out. */
    private List<Integer> bestRow(Map<String, Integer> one, int weeks) {
        if (weeks == 0) return new ArrayList<>(List.of(plainly(one)));
        List<Integer> best = null;
        for (int part = 0; part < 4; part++) {
            List<Integer> row = bestRow(taught(one, part), weeks - 1);
            row.add(1, part);
            if (best == null || row.get(0) > best.get(0)) best = row;
        }
        return best;
    }

    int key(int what) {
        if (what < 0 || what > 1) return OUTSIDE;
        int[] best = null;
        for (int steps = -12; steps <= 12; steps++) {
            int able = 0;
            for (Map<String, Integer> one : singers) if (canSing(one, steps)) able++;
            int[] row = {-able, Math.abs(steps), steps};
            if (best == null || Arrays.compare(row, best) < 0) best = row;
        }
        return what == 0 ? best[2] : -best[0];
    }

    private boolean canSing(Map<String, Integer> one, int steps) {
        String kind = KINDS.get(one.get("KIND"));
        if (kind.equals("growling") || kind.equals("hushed")) return false;
        int low = one.get("L"), high = one.get("H");
        if (kind.equals("narrow")) high = Math.min(high, low + 5);
        for (int[] note : notes) {
            int height = note[0] / 100 + steps;
            if (height < low || height > high) return false;
        }
        return true;
    }

    int age(int s) {
        if (s < 0 || s >= singers.size()) return UNKNOWN;
        Map<String, Integer> one = singers.get(s);
        for (int years = 0; years <= 30; years++) {
            List<Integer> row = sung(one, 2, true);
            int[] all = scores(row);
            if (!noSound(row) && all[0] == row.size() - 1 && all[1] == row.size()) return years;
            for (int part = 0; part < 4; part++) one = taught(one, part);
        }
        return NONE;
    }

    // ---- choirs, crowds

    /** Whether one can be known when 'free' have no slip against them, 'slipped' have had one, by so many passes. */
    private static boolean canKnow(int free, int slipped, int e, int passes) {
        if (free + slipped <= 1) return true;
        if (passes == 0) return false;
        String game = free + " " + slipped + " " + e + " " + passes;
        if (GAMES.containsKey(game)) return GAMES.get(game);
        boolean can = false;
        for (int x = 0; x <= free && !can; x++) {
            for (int y = 0; y <= slipped && !can; y++) {
                int yes = e == 0 ? 0 : free - x, no = e == 0 ? 0 : x;
                can = canKnow(x, y + yes, e, passes - 1) && canKnow(free - x, slipped - y + no, e, passes - 1);
            }
        }
        GAMES.put(game, can);
        return can;
    }

    int passes(int n, int e) {
        if (n < 1 || n > 16 || e < 0 || e > 1) return OUTSIDE;
        int p = 0;
        while (!canKnow(n, 0, e, p)) p++;
        return p;
    }

    int pairs(int n) {
        if (n < 2 || n > 16) return OUTSIDE;
        int count = 0, p = 0;
        for (int a = 0; a < n; a++) for (int b = 0; b < a; b++) count++;
        while (Math.pow(2, p) < count) p++;
        return p;
    }

    int join(int home) {
        if (home < -1200 || home > 1200) return OUTSIDE;
        if (crowd.size() == 8) return FULL;
        crowd.add(home);
        return crowd.size();
    }

    int part() {
        int were = crowd.size();
        crowd = new ArrayList<>();
        return were;
    }

    int ends(int what) {
        if (what < 0 || what > 1) return OUTSIDE;
        if (crowd.isEmpty()) return NOT;
        List<Integer> homes = crowd;
        for (int turns = 0; ; turns++) {
            int mean = homes.stream().mapToInt(Integer::intValue).sum() / homes.size();
            List<Integer> then = homes.stream().map(home -> home + (mean - home) / 2).toList();
            if (then.equals(homes)) return what == 0 ? mean : turns;
            homes = then;
        }
    }

    int round(int a, int b, int n, int what) {
        if (Math.abs((long) a) > 1200 || Math.abs((long) b) > 1200 || n < 0 || n > 99 || what < 0 || what > 1) return OUTSIDE;
        int[] homes = {a, b};
        for (int k = 0; k < n; k++) {
            homes = new int[] {homes[0] + (homes[1] - homes[0]) / 3, homes[1] + (homes[0] - homes[1]) / 3};
        }
        return homes[what];
    }

    // ---- books, draws, images

    int write(int height) {
        if (height < 0 || height > 9999) return OUTSIDE;
        if (book.size() == 40) return FULL;
        book.add(height);
        return book.size();
    }

    int tear() {
        int had = book.size();
        book = new ArrayList<>();
        return had;
    }

    int judge() {
        if (sungBy == null) return NOT;
        for (int k = 0; k < book.size(); k++) {
            if (k >= heights.size() || heights.get(k) == NONE) return k;
            if (Math.abs(book.get(k) - heights.get(k)) > 50) return k;
        }
        return NONE;
    }

    int seed(int v) {
        if (v < 0) return OUTSIDE;
        int was = (int) seed;
        seed = v;
        return was;
    }

    int keep(int i) {
        if (i < 0 || i > 1) return UNKNOWN;
        images[i] = new Object[] {sungBy, List.copyOf(heights), Map.copyOf(results), weights.clone(), List.copyOf(singers), seed};
        return 1;
    }

    @SuppressWarnings("unchecked")
    int goBack(int i) {
        if (i < 0 || i > 1) return UNKNOWN;
        if (images[i] == null) return NOT;
        sungBy = (Integer) images[i][0];
        heights = new ArrayList<>((List<Integer>) images[i][1]);
        results = new HashMap<>((Map<Integer, Boolean>) images[i][2]);
        weights = ((int[]) images[i][3]).clone();
        singers = new ArrayList<>((List<Map<String, Integer>>) images[i][4]);
        seed = (Long) images[i][5];
        return 1;
    }
}
