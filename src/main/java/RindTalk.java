import java.util.Arrays;

/** Cheeses in a row of cellars, what they hear of the talks, and what is learned by cutting them. */
public final class RindTalk {
    public static final int UNKNOWN = -1, OUTSIDE = -2, STATE = -3, FULL = -4, NONE = -9;
    public static final long LOST = Long.MIN_VALUE;

    private static final int NOTHING_THERE = 1, OTHER_KIND = 2, NO_SUCH_CELL = 3, BELOW_ZERO = 4;
    private static final int PLAIN = 0, WAXED = 1, MITED = 2;
    private static final int BYTES = 0, SHORTS = 1, INTS = 2;
    private static final int MOST_CHEESES = 4, MOST_CELLARS = 5, MOST_DAYS = 8, MOST_SLIPS = 8;
    private static final int LOUDEST = 9, LAST_WORD = 7, ALL_WORDS = 255;
    private static final int SHEETS = 4, MOST_CELLS = 60, MOST_PAIRS = 20;

    private final Sheet[] sheets = new Sheet[SHEETS];
    private final Sparing sparing = new Sparing();
    private final Shelving shelving = new Shelving();
    private final Whispers whispers = new Whispers();
    private Dairy taken = new Dairy();
    private Dairy draft = new Dairy();
    private int traced = 0;
    private int lastFault = 0;

    public RindTalk() {
        for (int k = 0; k < SHEETS; k++) {
            sheets[k] = new Sheet();
        }
    }

    // ---- 1 the dairy

    public int dairy(int sheet, int lane, int i, int n) {
        lastFault = 0;
        if (!isSheet(sheet)) {
            return UNKNOWN;
        }
        if (!isLane(lane)) {
            return OUTSIDE;
        }
        Sheet row = sheets[sheet];
        int found = row.faultAs(lane);
        if (found == 0 && n < 0) {
            found = BELOW_ZERO;
        }
        if (found == 0 && !row.hasCells(i, n)) {
            found = NO_SUCH_CELL;
        }
        if (found != 0) {
            return faulty(found);
        }
        int place = draft.takeText(row.cells, i, n);
        if (place != NONE) {
            return -100 - place;
        }
        Dairy old = taken;
        taken = draft;
        draft = old;
        return taken.talks;
    }

    public int ofCheese(int k, int what) {
        if (!isCheese(k)) {
            return UNKNOWN;
        }
        switch (what) {
            case 0: return taken.kind[k];
            case 1: return taken.lies[k];
            case 2: return taken.thick[k];
            case 3: return taken.turned[k];
            default: return OUTSIDE;
        }
    }

    public int ofTalk(int t, int what) {
        if (!isTalk(t)) {
            return UNKNOWN;
        }
        switch (what) {
            case 0: return taken.saidIn[t];
            case 1: return taken.loud[t];
            case 2: return taken.word[t];
            default: return OUTSIDE;
        }
    }

    public int move(int k, int day, int cellar) {
        if (!isCheese(k) || cellar < 0 || cellar >= taken.cellars) {
            return UNKNOWN;
        }
        if (!isDay(day)) {
            return OUTSIDE;
        }
        int number = taken.moves.add(k, day, cellar);
        taken.carry();
        return number;
    }

    public int undo(int k) {
        int left = taken.moves.takeBack(k);
        taken.carry();
        return left;
    }

    public int wall(int k, int day) {
        if (!isCheese(k)) {
            return UNKNOWN;
        }
        if (!isDay(day) && day != NONE) {
            return OUTSIDE;
        }
        int was = taken.turned[k];
        taken.turned[k] = day;
        return was;
    }

    // ---- 2 what is heard

    public int where(int k, int day) {
        if (!isCheese(k)) {
            return UNKNOWN;
        }
        return isDay(day) ? taken.cellarOn(k, day) : OUTSIDE;
    }

    public int heard(int k) {
        return isCheese(k) ? taken.talksTo(k, NONE) : UNKNOWN;
    }

    public int layer(int k, int d) {
        if (!isCheese(k) || d < 0) {
            return UNKNOWN;
        }
        return taken.talkAt(taken.talksTo(k, NONE), d);
    }

    public int deep(int k, int word) {
        if (!isCheese(k) || !isWord(word)) {
            return UNKNOWN;
        }
        return taken.depthOf(taken.talksTo(k, NONE), word);
    }

    public int cuts(int sheet, int lane, int i, int n, int what) {
        lastFault = 0;
        if (!isSheet(sheet)) {
            return UNKNOWN;
        }
        if (!isLane(lane) || n < 0 || n > MOST_PAIRS || what < 0 || what > 1) {
            return OUTSIDE;
        }
        Sheet row = sheets[sheet];
        int found = row.faultAs(lane);
        if (found == 0 && !row.hasCells(i, 2 * n)) {
            found = NO_SUCH_CELL;
        }
        if (found != 0) {
            return faulty(found);
        }
        return hasNoDairy() ? STATE : cutPairs(row.cells, i, n, what);
    }

    private int cutPairs(int[] cells, int from, int n, int what) {
        int had = 0;
        int idle = NONE;
        for (int pair = 0; pair < n; pair++) {
            int k = cells[from + 2 * pair];
            int depth = cells[from + 2 * pair + 1];
            if (!isCheese(k)) {
                return UNKNOWN;
            }
            if (depth < 0 || depth > MOST_DAYS) {
                return OUTSIDE;
            }
            int more = had | taken.wordsDown(taken.talksTo(k, NONE), depth);
            if (more == had && idle == NONE) {
                idle = pair;
            }
            had = more;
        }
        return what == 0 ? had : idle;
    }

    // ---- 3 cutting, shelves

    public int spare(int words, int others, int k) {
        if (k < -1) {
            return UNKNOWN;
        }
        if (!isWordSet(words) || !isWordSet(others)) {
            return OUTSIDE;
        }
        if (hasNoDairy()) {
            return STATE;
        }
        sparing.find(taken, words, others);
        if (k == -1) {
            return sparing.fewest;
        }
        return isCheese(k) && sparing.fewest != NONE ? sparing.best[k] : NONE;
    }

    public int shelve(int k) {
        if (k < -1) {
            return UNKNOWN;
        }
        if (hasNoDairy()) {
            return STATE;
        }
        shelving.find(taken);
        if (k == -1) {
            return shelving.most;
        }
        return isCheese(k) ? shelving.best[k] : NONE;
    }

    public int common() {
        if (hasNoDairy()) {
            return STATE;
        }
        int shared = ALL_WORDS;
        for (int k = 0; k < taken.cheeses; k++) {
            shared &= taken.wordsTo(k, NONE);
        }
        return shared;
    }

    public int alone(int k) {
        if (!isCheese(k)) {
            return UNKNOWN;
        }
        int own = taken.wordsTo(k, NONE);
        for (int other = 0; other < taken.cheeses; other++) {
            if (other != k) {
                own &= ~taken.wordsTo(other, NONE);
            }
        }
        return own;
    }

    // ---- 4 what was cut

    public int reading(int k, int layer, int word) {
        if (!isCheese(k) || (!isWord(word) && word != NONE)) {
            return UNKNOWN;
        }
        if (layer < 0 || layer >= MOST_DAYS) {
            return OUTSIDE;
        }
        return taken.readings.add(k, layer, word);
    }

    public int back(int k) {
        return taken.readings.takeBack(k);
    }

    public int louds(int t) {
        return isTalk(t) ? fitting(taken.loud, t, 1, LOUDEST) : UNKNOWN;
    }

    public int words(int t) {
        return isTalk(t) ? fitting(taken.word, t, 0, LAST_WORD) : UNKNOWN;
    }

    public int kinds(int k) {
        return isCheese(k) ? fitting(taken.kind, k, PLAIN, MITED) : UNKNOWN;
    }

    public int lay(int k) {
        return isCheese(k) ? fitting(taken.lies, k, 0, taken.cellars - 1) : UNKNOWN;
    }

    /** The values that one place of one of the dairy's rows may have so that all readings are so. */
    private int fitting(int[] row, int at, int low, int high) {
        int told = row[at];
        int set = 0;
        for (int value = low; value <= high; value++) {
            row[at] = value;
            if (taken.readingsAreSo()) {
                set |= 1 << value;
            }
        }
        row[at] = told;
        return set;
    }

    public long odds(int k, int word, int which) {
        if (!isCheese(k) || !isWord(word) || which < 0 || which > 1) {
            return LOST;
        }
        whispers.weigh(taken, k, word);
        return which == 0 ? whispers.upper : whispers.lower;
    }

    // ---- 5 sheets, parts

    public int sheet(int k, int lane, int n) {
        lastFault = 0;
        if (!isSheet(k)) {
            return UNKNOWN;
        }
        if (!isLane(lane) || n > MOST_CELLS) {
            return OUTSIDE;
        }
        if (n < 0) {
            return faulty(BELOW_ZERO);
        }
        sheets[k].begin(lane, n);
        return 1;
    }

    public int lose(int k) {
        if (!isSheet(k)) {
            return UNKNOWN;
        }
        return sheets[k].empty() ? 1 : 0;
    }

    public int put(int k, int i, int v) {
        lastFault = 0;
        if (!isSheet(k)) {
            return UNKNOWN;
        }
        Sheet row = sheets[k];
        if (row.hasNothing()) {
            return faulty(NOTHING_THERE);
        }
        if (!row.hasCells(i, 1)) {
            return faulty(NO_SUCH_CELL);
        }
        row.cells[i] = row.cutToLane(v);
        return 1;
    }

    public long cell(int k, int i, int lane) {
        lastFault = 0;
        if (!isSheet(k) || !isLane(lane)) {
            return LOST;
        }
        Sheet row = sheets[k];
        lastFault = row.faultAs(lane);
        if (lastFault == 0 && !row.hasCells(i, 1)) {
            lastFault = NO_SUCH_CELL;
        }
        return lastFault == 0 ? row.cells[i] : LOST;
    }

    public int copy(int k, int i, int other, int j, int n) {
        lastFault = 0;
        if (!isSheet(k) || !isSheet(other)) {
            return UNKNOWN;
        }
        Sheet from = sheets[k];
        Sheet to = sheets[other];
        if (from.hasNothing() || to.hasNothing()) {
            return faulty(NOTHING_THERE);
        }
        if (from.lane != to.lane) {
            return faulty(OTHER_KIND);
        }
        if (!from.hasCells(i, n) || !to.hasCells(j, n)) {
            return faulty(NO_SUCH_CELL);
        }
        System.arraycopy(from.cells, i, to.cells, j, n);
        return n;
    }

    public int tell(int k) {
        if (!isCheese(k)) {
            return UNKNOWN;
        }
        int thick = taken.thick[k];
        switch (taken.kind[k]) {
            case MITED: return mitedTells(thick);
            case WAXED: return waxedTells(thick);
            default: return plainTells(thick);
        }
    }

    private int plainTells(int thick) {
        leave(1);
        return thick;
    }

    private int waxedTells(int thick) {
        leave(2);
        return plainTells(thick) + 100;
    }

    private int mitedTells(int thick) {
        leave(3);
        int asWaxed = waxedTells(thick);
        return asWaxed + plainTells(thick);
    }

    public int tap(int k) {
        if (!isCheese(k)) {
            return UNKNOWN;
        }
        if (taken.kind[k] == MITED) {
            leave(5);
            return 70;
        }
        leave(4);
        return k;
    }

    public int as(int k, int kind) {
        lastFault = 0;
        if (!isCheese(k)) {
            return UNKNOWN;
        }
        if (kind < PLAIN || kind > MITED) {
            return OUTSIDE;
        }
        // The kinds are a chain, each one of the kind ahead of it too.
        return taken.kind[k] < kind ? faulty(OTHER_KIND) : 1;
    }

    public int trace() {
        return traced;
    }

    public int fault() {
        return lastFault;
    }

    public int many(int what) {
        switch (what) {
            case 0: return taken.talks;
            case 1: return taken.cheeses;
            case 2: return taken.cellars;
            case 3: return taken.moves.count;
            case 4: return taken.readings.count;
            default: return OUTSIDE;
        }
    }

    private void leave(int body) {
        traced = 31 * traced + body;
    }

    private int faulty(int number) {
        lastFault = number;
        return -10 - number;
    }

    private boolean hasNoDairy() {
        return taken.talks == 0;
    }

    private boolean isCheese(int k) {
        return k >= 0 && k < taken.cheeses;
    }

    private boolean isTalk(int t) {
        return t >= 0 && t < taken.talks;
    }

    private static boolean isSheet(int k) {
        return k >= 0 && k < SHEETS;
    }

    private static boolean isLane(int lane) {
        return lane >= BYTES && lane <= INTS;
    }

    private static boolean isDay(int day) {
        return day >= 0 && day < MOST_DAYS;
    }

    private static boolean isWord(int word) {
        return word >= 0 && word <= LAST_WORD;
    }

    private static boolean isWordSet(int set) {
        return set >= 0 && set <= ALL_WORDS;
    }

    /** A row of numbers of a lane, or nothing; the cells are made once and used by each new row again. */
    private static final class Sheet {
        final int[] cells = new int[MOST_CELLS];
        int lane = BYTES;
        private int length = NONE;

        void begin(int newLane, int n) {
            lane = newLane;
            length = n;
            Arrays.fill(cells, 0);
        }

        /** Whether there was something to lose. */
        boolean empty() {
            boolean had = !hasNothing();
            length = NONE;
            return had;
        }

        boolean hasNothing() {
            return length < 0;
        }

        boolean hasCells(int from, int n) {
            return from >= 0 && from <= length && n >= 0 && n <= length - from;
        }

        int faultAs(int wanted) {
            if (hasNothing()) {
                return NOTHING_THERE;
            }
            return lane == wanted ? 0 : OTHER_KIND;
        }

        int cutToLane(int v) {
            switch (lane) {
                case BYTES: return (byte) v;
                case SHORTS: return (short) v;
                default: return v;
            }
        }
    }

    /** Moves (at a day to a cellar) or readings (at a layer a word), in the order told. */
    private static final class Slips {
        final int[] cheese = new int[MOST_SLIPS];
        final int[] at = new int[MOST_SLIPS];
        final int[] value = new int[MOST_SLIPS];
        int count = 0;

        int add(int k, int place, int told) {
            if (count >= MOST_SLIPS) {
                return FULL;
            }
            cheese[count] = k;
            at[count] = place;
            value[count] = told;
            count++;
            return count - 1;
        }

        int takeBack(int k) {
            if (k < 0 || k > count) {
                return OUTSIDE;
            }
            count -= k;
            return count;
        }
    }

    /** All that a text tells, and what has been told of it since. */
    private static final class Dairy {
        int cellars = 0, cheeses = 0, talks = 0;
        final int[] kind = new int[MOST_CHEESES];
        final int[] lies = new int[MOST_CHEESES];
        final int[] thick = new int[MOST_CHEESES];
        final int[] turned = new int[MOST_CHEESES];
        final int[] saidIn = new int[MOST_DAYS];
        final int[] loud = new int[MOST_DAYS];
        final int[] word = new int[MOST_DAYS];
        final Slips moves = new Slips();
        final Slips readings = new Slips();
        /** By cheese and day the cellar of the move that holds, or NONE; apart from where it lies at first, of which lay tries others. */
        private final int[][] carried = new int[MOST_CHEESES][MOST_DAYS];
        private final int[] heardTalks = new int[MOST_CHEESES];

        /** The place of the first code with which no text goes on; NONE: it is a text, and all of it stands here. */
        int takeText(int[] cells, int from, int n) {
            cellars = 0;
            cheeses = 0;
            talks = 0;
            moves.count = 0;
            readings.count = 0;
            for (int place = 0; place < n; place++) {
                if (!goesOn(place, cells[from + place])) {
                    return place;
                }
            }
            if (talks == 0 || (n - 2) % 4 != 0) {
                return n;
            }
            Arrays.fill(turned, NONE);
            carry();
            return NONE;
        }

        /** Behind the two codes of the cellars each cheese and each talk has four. */
        private boolean goesOn(int place, int code) {
            if (place == 0) {
                return code == 'q';
            }
            if (place == 1) {
                cellars = code - '0';
                return isDigit(code, 1, MOST_CELLARS);
            }
            int part = (place - 2) % 4;
            if (part == 0) {
                return begins(code);
            }
            return talks == 0 ? cheeseGoesOn(part, code) : talkGoesOn(part, code);
        }

        private boolean begins(int code) {
            if (code == ',' && talks == 0 && cheeses < MOST_CHEESES) {
                cheeses++;
                return true;
            }
            if (code == ';' && cheeses > 0 && talks < MOST_DAYS) {
                talks++;
                return true;
            }
            return false;
        }

        private boolean cheeseGoesOn(int part, int code) {
            int k = cheeses - 1;
            if (part == 1) {
                kind[k] = kindOf(code);
                return kind[k] != NONE;
            }
            if (part == 2) {
                lies[k] = code - '0';
                return isDigit(code, 0, cellars - 1);
            }
            thick[k] = code - '0';
            return isDigit(code, 0, 9);
        }

        private boolean talkGoesOn(int part, int code) {
            int t = talks - 1;
            if (part == 1) {
                saidIn[t] = code - '0';
                return isDigit(code, 0, cellars - 1);
            }
            if (part == 2) {
                loud[t] = code - '0';
                return isDigit(code, 1, LOUDEST);
            }
            word[t] = code - '0';
            return isDigit(code, 0, LAST_WORD);
        }

        private static boolean isDigit(int code, int low, int high) {
            return code >= '0' + low && code <= '0' + high;
        }

        private static int kindOf(int code) {
            switch (code) {
                case 'c': return PLAIN;
                case 'w': return WAXED;
                case 'm': return MITED;
                default: return NONE;
            }
        }

        /** Finds anew where the moves carry each cheese. */
        void carry() {
            for (int k = 0; k < cheeses; k++) {
                for (int day = 0; day < MOST_DAYS; day++) {
                    carried[k][day] = carriedTo(k, day);
                }
            }
        }

        private int carriedTo(int k, int day) {
            int latest = 0;
            int cellar = NONE;
            for (int m = 0; m < moves.count; m++) {
                if (moves.cheese[m] == k && moves.at[m] <= day && moves.at[m] >= latest) {
                    latest = moves.at[m];
                    cellar = moves.value[m];
                }
            }
            return cellar;
        }

        int cellarOn(int k, int day) {
            return carried[k][day] == NONE ? lies[k] : carried[k][day];
        }

        /** Whether a cheese hears what is said so loud on a day, mites left aside. */
        boolean catches(int k, int cellar, int day, int howLoud) {
            if (turned[k] != NONE && turned[k] <= day) {
                return false;
            }
            int comes = howLoud - 2 * Math.abs(saidIn[day] - cellar);
            int least = kind[k] == WAXED ? thick[k] + 1 : Math.max(thick[k], 1);
            return comes >= least;
        }

        /** The talks that a cheese hears, as a set, if it lies in a cellar for good (NONE: as it lies and is moved). */
        int talksTo(int k, int shelf) {
            int set = 0;
            boolean mitesSpareNext = true;
            for (int day = 0; day < talks; day++) {
                int cellar = shelf == NONE ? cellarOn(k, day) : shelf;
                if (catches(k, cellar, day, loud[day])) {
                    if (kind[k] != MITED || mitesSpareNext) {
                        set |= 1 << day;
                    }
                    mitesSpareNext = !mitesSpareNext;
                }
            }
            return set;
        }

        int wordsTo(int k, int shelf) {
            return wordsDown(talksTo(k, shelf), MOST_DAYS);
        }

        /** The words of the layers down to a depth, of a cheese that heard such a set of talks. */
        int wordsDown(int heardSet, int depth) {
            int set = 0;
            int left = depth;
            for (int t = talks - 1; t >= 0 && left > 0; t--) {
                if ((heardSet >> t & 1) != 0) {
                    set |= 1 << word[t];
                    left--;
                }
            }
            return set;
        }

        int talkAt(int heardSet, int d) {
            int left = d;
            for (int t = talks - 1; t >= 0; t--) {
                if ((heardSet >> t & 1) != 0) {
                    if (left == 0) {
                        return t;
                    }
                    left--;
                }
            }
            return NONE;
        }

        int depthOf(int heardSet, int wanted) {
            int depth = 0;
            for (int t = talks - 1; t >= 0; t--) {
                if ((heardSet >> t & 1) != 0) {
                    depth++;
                    if (word[t] == wanted) {
                        return depth;
                    }
                }
            }
            return NONE;
        }

        boolean readingsAreSo() {
            for (int k = 0; k < cheeses; k++) {
                heardTalks[k] = talksTo(k, NONE);
            }
            for (int r = 0; r < readings.count; r++) {
                int t = talkAt(heardTalks[readings.cheese[r]], readings.at[r]);
                int there = t == NONE ? NONE : word[t];
                if (there != readings.value[r]) {
                    return false;
                }
            }
            return true;
        }
    }

    /** The least cutting by which all wanted words are had and none of the others. */
    private static final class Sparing {
        final int[] best = new int[MOST_CHEESES];
        int fewest = NONE;
        private final int[][] had = new int[MOST_CHEESES][MOST_DAYS + 1];
        private final int[] deepest = new int[MOST_CHEESES];
        /** The words that a cheese and those behind it can bring at all. */
        private final int[] within = new int[MOST_CHEESES + 1];
        private final int[] row = new int[MOST_CHEESES];
        private int cheeses = 0, wanted = 0;

        void find(Dairy dairy, int words, int others) {
            cheeses = dairy.cheeses;
            wanted = words;
            fewest = NONE;
            within[cheeses] = 0;
            for (int k = cheeses - 1; k >= 0; k--) {
                measure(dairy, k, others);
                within[k] = within[k + 1] | had[k][deepest[k]];
            }
            cutFrom(0, 0, 0);
        }

        /** How deep a cheese may be cut, which ends where a barred word lies, and what is had by each depth. */
        private void measure(Dairy dairy, int k, int barred) {
            int heardSet = dairy.talksTo(k, NONE);
            int layers = Integer.bitCount(heardSet);
            for (int depth = 0; depth <= layers; depth++) {
                int words = dairy.wordsDown(heardSet, depth);
                if ((words & barred) != 0) {
                    return;
                }
                had[k][depth] = words;
                deepest[k] = depth;
            }
        }

        /** Rows come in their order, so that of several as short the first one stays. */
        private void cutFrom(int k, int hadSoFar, int sum) {
            boolean isShorter = fewest == NONE || sum < fewest;
            if (!isShorter || (wanted & ~(hadSoFar | within[k])) != 0) {
                return;
            }
            if (k >= cheeses) {
                fewest = sum;
                System.arraycopy(row, 0, best, 0, MOST_CHEESES);
                return;
            }
            for (int depth = 0; depth <= deepest[k]; depth++) {
                // A cutting that ends on a layer without a new word is never the least.
                if (depth == 0 || had[k][depth] != had[k][depth - 1]) {
                    row[k] = depth;
                    cutFrom(k + 1, hadSoFar | had[k][depth], sum + depth);
                }
            }
        }
    }

    /** The cellars by which the most words are heard. */
    private static final class Shelving {
        final int[] best = new int[MOST_CHEESES];
        int most = NONE;
        private final int[][] hears = new int[MOST_CHEESES][MOST_CELLARS];
        private final int[] row = new int[MOST_CHEESES];
        private int cheeses = 0, cellars = 0;

        void find(Dairy dairy) {
            cheeses = dairy.cheeses;
            cellars = dairy.cellars;
            most = NONE;
            for (int k = 0; k < cheeses; k++) {
                for (int cellar = 0; cellar < cellars; cellar++) {
                    hears[k][cellar] = dairy.wordsTo(k, cellar);
                }
            }
            shelveFrom(0, 0);
        }

        /** Rows come in their order, so that of several as good the first one stays. */
        private void shelveFrom(int k, int heardSoFar) {
            if (k >= cheeses) {
                int count = Integer.bitCount(heardSoFar);
                if (count > most) {
                    most = count;
                    System.arraycopy(row, 0, best, 0, MOST_CHEESES);
                }
                return;
            }
            for (int cellar = 0; cellar < cellars; cellar++) {
                row[k] = cellar;
                shelveFrom(k + 1, heardSoFar | hears[k][cellar]);
            }
        }
    }

    /** The share of all ways to whisper by which a cheese hears a word. */
    private static final class Whispers {
        /** How many ways lead to a state: bit 0 that the word is heard, bit 1 that mites leave the next one out. */
        private int[] ways = new int[4];
        private int[] next = new int[4];
        int upper = 0, lower = 1;

        void weigh(Dairy dairy, int k, int word) {
            Arrays.fill(ways, 0);
            ways[0] = 1;
            for (int day = 0; day < dairy.talks; day++) {
                Arrays.fill(next, 0);
                spread(dairy, k, day, 1, word);
                spread(dairy, k, day, dairy.loud[day], word);
                int[] old = ways;
                ways = next;
                next = old;
            }
            upper = ways[1] + ways[3];
            lower = 1 << dairy.talks;
            reduce();
        }

        private void spread(Dairy dairy, int k, int day, int howLoud, int word) {
            boolean caught = dairy.catches(k, dairy.cellarOn(k, day), day, howLoud);
            boolean mited = dairy.kind[k] == MITED;
            boolean isIt = dairy.word[day] == word;
            for (int state = 0; state < 4; state++) {
                int to = state;
                if (caught) {
                    boolean leftOut = (state & 2) != 0;
                    to = isIt && !leftOut ? state | 1 : state;
                    to = mited ? to ^ 2 : to;
                }
                next[to] += ways[state];
            }
        }

        /** The lower number is a power of two, so only halving can shorten the share. */
        private void reduce() {
            for (int step = 0; step < MOST_DAYS && lower > 1 && upper % 2 == 0; step++) {
                upper /= 2;
                lower /= 2;
            }
        }
    }
}
