import java.util.ArrayList;
import java.util.Arrays;
import java.util.Comparator;
import java.util.HashMap;
import java.util.List;
import java.util.Map;
import java.util.TreeSet;
import java.util.regex.Pattern;

/** The document once more, as slowly and plainly as can be, to hold the class against. */
final class PlainModel {
    private static final int UNKNOWN = -1, OUTSIDE = -2, STATE = -3, FULL = -4, NONE = -9;
    private static final long LOST = Long.MIN_VALUE;

    record Cheese(char letter, int cellar, int thick) { }

    record Talk(int cellar, int loud, int word) { }

    record Slip(int cheese, int at, int value) { }

    private int cellars = 0;
    private List<Cheese> cheeses = new ArrayList<>();
    private List<Talk> talks = new ArrayList<>();
    private final Map<Integer, Integer> turned = new HashMap<>();
    private final List<Slip> moves = new ArrayList<>();
    private final List<Slip> readings = new ArrayList<>();
    private final Object[] sheets = new Object[4];
    private int trace = 0;
    private int fault = 0;

    // ---- sheets as the machine's own arrays

    private static int length(Object row) {
        return row instanceof byte[] b ? b.length : row instanceof short[] s ? s.length : ((int[]) row).length;
    }

    private static int lane(Object row) {
        return row instanceof byte[] ? 0 : row instanceof short[] ? 1 : 2;
    }

    private static int get(Object row, int i) {
        return row instanceof byte[] b ? b[i] : row instanceof short[] s ? s[i] : ((int[]) row)[i];
    }

    private int faulty(int number) {
        fault = number;
        return -10 - number;
    }

    private static boolean in(long v, long low, long high) {
        return low <= v && v <= high;
    }

    /** 0, or the fault of taking cells of a sheet as a row of a lane. */
    private int rowFault(int sheet, int lane, long i, long n, boolean sizeNamed) {
        Object row = sheets[sheet];
        if (row != null && lane(row) != lane) {
            return 2;
        }
        if (row == null) {
            return 1;
        }
        if (sizeNamed && n < 0) {
            return 4;
        }
        return in(i, 0, length(row)) && n >= 0 && i + n <= length(row) ? 0 : 3;
    }

    // ---- 1

    int dairy(int sheet, int lane, int i, int n) {
        fault = 0;
        if (!in(sheet, 0, 3)) {
            return UNKNOWN;
        }
        if (!in(lane, 0, 2)) {
            return OUTSIDE;
        }
        int found = rowFault(sheet, lane, i, n, true);
        if (found != 0) {
            return faulty(found);
        }
        StringBuilder text = new StringBuilder();
        for (int c = i; c < i + n; c++) {
            int code = get(sheets[sheet], c);
            text.append(in(code, 1, 126) ? (char) code : '?');
        }
        int place = firstFault(text.toString());
        if (place >= 0) {
            return -100 - place;
        }
        take(text.toString());
        return talks.size();
    }

    private static final List<Pattern> TEXTS = new ArrayList<>();

    static {
        for (int q = 1; q <= 5; q++) {
            String cellar = "[0-" + (q - 1) + "]";
            TEXTS.add(Pattern.compile("q" + q + "(,[cwm]" + cellar + "[0-9]){1,4}(;" + cellar + "[1-9][0-7]){1,8}"));
        }
    }

    /** A text may begin so if it is one with some end of the shortest text behind it. */
    private static boolean isBegin(String text) {
        String shortest = "q1,c00;010";
        for (int cut = 0; cut <= shortest.length(); cut++) {
            if (isText(text + shortest.substring(cut))) {
                return true;
            }
        }
        return false;
    }

    private static boolean isText(String text) {
        return TEXTS.stream().anyMatch(p -> p.matcher(text).matches());
    }

    private static int firstFault(String text) {
        for (int end = 1; end <= text.length(); end++) {
            if (!isBegin(text.substring(0, end))) {
                return end - 1;
            }
        }
        return isText(text) ? -1 : text.length();
    }

    private void take(String text) {
        cellars = text.charAt(1) - '0';
        cheeses = new ArrayList<>();
        talks = new ArrayList<>();
        turned.clear();
        moves.clear();
        readings.clear();
        String[] parts = text.split(";");
        String[] lying = parts[0].split(",");
        for (String s : Arrays.asList(lying).subList(1, lying.length)) {
            cheeses.add(new Cheese(s.charAt(0), s.charAt(1) - '0', s.charAt(2) - '0'));
        }
        for (String s : Arrays.asList(parts).subList(1, parts.length)) {
            talks.add(new Talk(s.charAt(0) - '0', s.charAt(1) - '0', s.charAt(2) - '0'));
        }
    }

    private boolean isCheese(int k) {
        return in(k, 0, cheeses.size() - 1);
    }

    private boolean isTalk(int t) {
        return in(t, 0, talks.size() - 1);
    }

    int ofCheese(int k, int what) {
        if (!isCheese(k)) {
            return UNKNOWN;
        }
        Cheese c = cheeses.get(k);
        int[] all = {"cwm".indexOf(c.letter), c.cellar, c.thick, turned.getOrDefault(k, NONE)};
        return in(what, 0, 3) ? all[what] : OUTSIDE;
    }

    int ofTalk(int t, int what) {
        if (!isTalk(t)) {
            return UNKNOWN;
        }
        Talk talk = talks.get(t);
        int[] all = {talk.cellar, talk.loud, talk.word};
        return in(what, 0, 2) ? all[what] : OUTSIDE;
    }

    private static int add(List<Slip> slips, Slip slip) {
        if (slips.size() == 8) {
            return FULL;
        }
        slips.add(slip);
        return slips.size() - 1;
    }

    private static int takeBack(List<Slip> slips, int k) {
        if (!in(k, 0, slips.size())) {
            return OUTSIDE;
        }
        slips.subList(slips.size() - k, slips.size()).clear();
        return slips.size();
    }

    int move(int k, int day, int cellar) {
        if (!isCheese(k) || !in(cellar, 0, cellars - 1)) {
            return UNKNOWN;
        }
        return in(day, 0, 7) ? add(moves, new Slip(k, day, cellar)) : OUTSIDE;
    }

    int undo(int k) {
        return takeBack(moves, k);
    }

    int wall(int k, int day) {
        if (!isCheese(k)) {
            return UNKNOWN;
        }
        if (!in(day, 0, 7) && day != NONE) {
            return OUTSIDE;
        }
        int was = turned.getOrDefault(k, NONE);
        turned.remove(k);
        if (day != NONE) {
            turned.put(k, day);
        }
        return was;
    }

    // ---- 2

    /** The moves sorted by day, the sort being stable, tell the place by the last one that has come. */
    private int cellarOn(int k, int day) {
        List<Slip> sorted = new ArrayList<>(moves);
        sorted.sort(Comparator.comparingInt(Slip::at));
        int cellar = cheeses.get(k).cellar;
        for (Slip m : sorted) {
            if (m.cheese == k && m.at <= day) {
                cellar = m.value;
            }
        }
        return cellar;
    }

    /** Talks heard, of the last day first: so the list is that of the layers. */
    private List<Integer> layers(int k, List<Talk> said, int shelf) {
        Cheese c = cheeses.get(k);
        List<Integer> come = new ArrayList<>();
        for (int day = 0; day < said.size(); day++) {
            Talk talk = said.get(day);
            int cellar = shelf >= 0 ? shelf : cellarOn(k, day);
            int comes = talk.loud - 2 * Math.abs(talk.cellar - cellar);
            boolean isTurned = turned.containsKey(k) && day >= turned.get(k);
            boolean hears = comes >= 1 && comes >= c.thick + (c.letter == 'w' ? 1 : 0);
            if (hears && !isTurned) {
                come.add(day);
            }
        }
        List<Integer> layers = new ArrayList<>();
        for (int n = 0; n < come.size(); n++) {
            if (c.letter != 'm' || n % 2 == 0) {
                layers.add(0, come.get(n));
            }
        }
        return layers;
    }

    private List<Integer> layers(int k) {
        return layers(k, talks, -1);
    }

    private int wordsOf(List<Integer> some) {
        int set = 0;
        for (int t : some) {
            set |= 1 << talks.get(t).word;
        }
        return set;
    }

    int where(int k, int day) {
        return !isCheese(k) ? UNKNOWN : in(day, 0, 7) ? cellarOn(k, day) : OUTSIDE;
    }

    int heard(int k) {
        if (!isCheese(k)) {
            return UNKNOWN;
        }
        int set = 0;
        for (int t : layers(k)) {
            set += 1 << t;
        }
        return set;
    }

    int layer(int k, int d) {
        if (!isCheese(k) || d < 0) {
            return UNKNOWN;
        }
        return d < layers(k).size() ? layers(k).get(d) : NONE;
    }

    int deep(int k, int word) {
        if (!isCheese(k) || !in(word, 0, 7)) {
            return UNKNOWN;
        }
        List<Integer> all = layers(k);
        for (int depth = 1; depth <= all.size(); depth++) {
            if ((wordsOf(all.subList(0, depth)) >> word & 1) == 1) {
                return depth;
            }
        }
        return NONE;
    }

    int cuts(int sheet, int lane, int i, int n, int what) {
        fault = 0;
        if (!in(sheet, 0, 3)) {
            return UNKNOWN;
        }
        if (!in(lane, 0, 2) || !in(n, 0, 20) || !in(what, 0, 1)) {
            return OUTSIDE;
        }
        int found = rowFault(sheet, lane, i, 2 * n, false);
        if (found != 0) {
            return faulty(found);
        }
        if (talks.isEmpty()) {
            return STATE;
        }
        TreeSet<Integer> had = new TreeSet<>();
        int idle = NONE;
        for (int p = 0; p < n; p++) {
            int k = get(sheets[sheet], i + 2 * p);
            int depth = get(sheets[sheet], i + 2 * p + 1);
            if (!isCheese(k)) {
                return UNKNOWN;
            }
            if (!in(depth, 0, 8)) {
                return OUTSIDE;
            }
            boolean more = false;
            for (int t : layers(k).subList(0, Math.min(depth, layers(k).size()))) {
                more |= had.add(talks.get(t).word);
            }
            idle = !more && idle == NONE ? p : idle;
        }
        return what == 1 ? idle : had.stream().mapToInt(w -> 1 << w).sum();
    }

    // ---- 3

    /** All rows with each number below its own bound, in their order. */
    private static List<int[]> rows(int[] bounds) {
        List<int[]> all = new ArrayList<>();
        all.add(new int[0]);
        for (int bound : bounds) {
            List<int[]> longer = new ArrayList<>();
            for (int[] row : all) {
                for (int v = 0; v < bound; v++) {
                    int[] next = Arrays.copyOf(row, row.length + 1);
                    next[row.length] = v;
                    longer.add(next);
                }
            }
            all = longer;
        }
        return all;
    }

    int spare(int words, int others, int k) {
        if (k < -1) {
            return UNKNOWN;
        }
        if (!in(words, 0, 255) || !in(others, 0, 255)) {
            return OUTSIDE;
        }
        if (talks.isEmpty()) {
            return STATE;
        }
        int[] bounds = new int[cheeses.size()];
        for (int c = 0; c < bounds.length; c++) {
            bounds[c] = layers(c).size() + 1;
        }
        int[][] had = new int[bounds.length][9];
        for (int c = 0; c < bounds.length; c++) {
            for (int d = 0; d < bounds[c]; d++) {
                had[c][d] = wordsOf(layers(c).subList(0, d));
            }
        }
        int[] best = null;
        for (int[] row : rows(bounds)) {
            int all = 0;
            for (int c = 0; c < row.length; c++) {
                all |= had[c][row[c]];
            }
            boolean fits = (all & words) == words && (all & others) == 0;
            if (fits && (best == null || Arrays.stream(row).sum() < Arrays.stream(best).sum())) {
                best = row;
            }
        }
        if (best == null || k >= best.length) {
            return NONE;
        }
        return k == -1 ? Arrays.stream(best).sum() : best[k];
    }

    int shelve(int k) {
        if (k < -1) {
            return UNKNOWN;
        }
        if (talks.isEmpty()) {
            return STATE;
        }
        int[] bounds = new int[cheeses.size()];
        Arrays.fill(bounds, cellars);
        int[][] hears = new int[bounds.length][cellars];
        for (int c = 0; c < bounds.length; c++) {
            for (int cellar = 0; cellar < cellars; cellar++) {
                hears[c][cellar] = wordsOf(layers(c, talks, cellar));
            }
        }
        int most = -1;
        int[] best = null;
        for (int[] row : rows(bounds)) {
            int all = 0;
            for (int c = 0; c < row.length; c++) {
                all |= hears[c][row[c]];
            }
            if (Integer.bitCount(all) > most) {
                most = Integer.bitCount(all);
                best = row;
            }
        }
        return k == -1 ? most : k < best.length ? best[k] : NONE;
    }

    /** How many cheeses heard a word. */
    private int hearers(int word) {
        int count = 0;
        for (int k = 0; k < cheeses.size(); k++) {
            count += wordsOf(layers(k)) >> word & 1;
        }
        return count;
    }

    int common() {
        if (talks.isEmpty()) {
            return STATE;
        }
        int set = 0;
        for (int word = 0; word < 8; word++) {
            set += hearers(word) == cheeses.size() ? 1 << word : 0;
        }
        return set;
    }

    int alone(int k) {
        if (!isCheese(k)) {
            return UNKNOWN;
        }
        int set = 0;
        for (int word = 0; word < 8; word++) {
            boolean heard = (wordsOf(layers(k)) >> word & 1) == 1;
            set += heard && hearers(word) == 1 ? 1 << word : 0;
        }
        return set;
    }

    // ---- 4

    int reading(int k, int layer, int word) {
        if (!isCheese(k) || !(in(word, 0, 7) || word == NONE)) {
            return UNKNOWN;
        }
        return in(layer, 0, 7) ? add(readings, new Slip(k, layer, word)) : OUTSIDE;
    }

    int back(int k) {
        return takeBack(readings, k);
    }

    private boolean allSo() {
        for (Slip r : readings) {
            List<Integer> layers = layers(r.cheese);
            int there = r.at < layers.size() ? talks.get(layers.get(r.at)).word : NONE;
            if (there != r.value) {
                return false;
            }
        }
        return true;
    }

    private int talkSet(int t, int low, int high, boolean loud) {
        if (!isTalk(t)) {
            return UNKNOWN;
        }
        Talk told = talks.get(t);
        int set = 0;
        for (int v = low; v <= high; v++) {
            talks.set(t, loud ? new Talk(told.cellar, v, told.word) : new Talk(told.cellar, told.loud, v));
            set += allSo() ? 1 << v : 0;
        }
        talks.set(t, told);
        return set;
    }

    private int cheeseSet(int k, int high, boolean kind) {
        if (!isCheese(k)) {
            return UNKNOWN;
        }
        Cheese told = cheeses.get(k);
        int set = 0;
        for (int v = 0; v <= high; v++) {
            cheeses.set(k, kind ? new Cheese("cwm".charAt(v), told.cellar, told.thick) : new Cheese(told.letter, v, told.thick));
            set += allSo() ? 1 << v : 0;
        }
        cheeses.set(k, told);
        return set;
    }

    int louds(int t) {
        return talkSet(t, 1, 9, true);
    }

    int words(int t) {
        return talkSet(t, 0, 7, false);
    }

    int kinds(int k) {
        return cheeseSet(k, 2, true);
    }

    int lay(int k) {
        return cheeseSet(k, cellars - 1, false);
    }

    long odds(int k, int word, int which) {
        if (!isCheese(k) || !in(word, 0, 7) || !in(which, 0, 1)) {
            return LOST;
        }
        long upper = 0;
        long lower = 1L << talks.size();
        for (int whispered = 0; whispered < lower; whispered++) {
            List<Talk> said = new ArrayList<>();
            for (int t = 0; t < talks.size(); t++) {
                Talk told = talks.get(t);
                said.add((whispered >> t & 1) == 1 ? new Talk(told.cellar, 1, told.word) : told);
            }
            upper += wordsOf(layers(k, said, -1)) >> word & 1;
        }
        long divisor = java.math.BigInteger.valueOf(upper).gcd(java.math.BigInteger.valueOf(lower)).longValue();
        return (which == 0 ? upper : lower) / divisor;
    }

    // ---- 5

    int sheet(int k, int lane, int n) {
        fault = 0;
        if (!in(k, 0, 3)) {
            return UNKNOWN;
        }
        if (!in(lane, 0, 2) || n > 60) {
            return OUTSIDE;
        }
        if (n < 0) {
            return faulty(4);
        }
        sheets[k] = lane == 0 ? new byte[n] : lane == 1 ? new short[n] : new int[n];
        return 1;
    }

    int lose(int k) {
        if (!in(k, 0, 3)) {
            return UNKNOWN;
        }
        int had = sheets[k] == null ? 0 : 1;
        sheets[k] = null;
        return had;
    }

    int put(int k, int i, int v) {
        fault = 0;
        if (!in(k, 0, 3)) {
            return UNKNOWN;
        }
        Object row = sheets[k];
        if (row == null) {
            return faulty(1);
        }
        if (!in(i, 0, length(row) - 1)) {
            return faulty(3);
        }
        if (row instanceof byte[] b) {
            b[i] = (byte) v;
        } else if (row instanceof short[] s) {
            s[i] = (short) v;
        } else {
            ((int[]) row)[i] = v;
        }
        return 1;
    }

    long cell(int k, int i, int lane) {
        fault = 0;
        if (!in(k, 0, 3) || !in(lane, 0, 2)) {
            return LOST;
        }
        fault = rowFault(k, lane, i, 1, false);
        return fault == 0 ? get(sheets[k], i) : LOST;
    }

    int copy(int k, int i, int other, int j, int n) {
        fault = 0;
        if (!in(k, 0, 3) || !in(other, 0, 3)) {
            return UNKNOWN;
        }
        if (sheets[k] == null || sheets[other] == null) {
            return faulty(1);
        }
        if (sheets[k].getClass() != sheets[other].getClass()) {
            return faulty(2);
        }
        long from = i;
        long to = j;
        if (i < 0 || j < 0 || n < 0 || from + n > length(sheets[k]) || to + n > length(sheets[other])) {
            return faulty(3);
        }
        System.arraycopy(sheets[k], i, sheets[other], j, n);
        return n;
    }

    private void leave(int... bodies) {
        for (int b : bodies) {
            trace = 31 * trace + b;
        }
    }

    int tell(int k) {
        if (!isCheese(k)) {
            return UNKNOWN;
        }
        Cheese c = cheeses.get(k);
        if (c.letter == 'c') {
            leave(1);
            return c.thick;
        }
        if (c.letter == 'w') {
            leave(2, 1);
            return c.thick + 100;
        }
        leave(3, 2, 1, 1);
        return c.thick + 100 + c.thick;
    }

    int tap(int k) {
        if (!isCheese(k)) {
            return UNKNOWN;
        }
        boolean own = cheeses.get(k).letter == 'm';
        leave(own ? 5 : 4);
        return own ? 70 : k;
    }

    int as(int k, int kind) {
        fault = 0;
        if (!isCheese(k)) {
            return UNKNOWN;
        }
        if (!in(kind, 0, 2)) {
            return OUTSIDE;
        }
        String isOne = Map.of('c', "0", 'w', "01", 'm', "012").get(cheeses.get(k).letter);
        return isOne.contains("" + kind) ? 1 : faulty(2);
    }

    int trace() {
        return trace;
    }

    int fault() {
        return fault;
    }

    int many(int what) {
        int[] all = {talks.size(), cheeses.size(), cellars, moves.size(), readings.size()};
        return in(what, 0, 4) ? all[what] : OUTSIDE;
    }
}
