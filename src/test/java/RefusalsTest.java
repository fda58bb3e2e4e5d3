/**
 * Terms: refusals and faults 'change nothing (but fault(), of a call that names FAULTS)'. Each call is refused in each
 * way that its line tells, on objects that have all things, and all that can be seen of them is looked at then.
 */
public final class RefusalsTest {
    private static final int MIN = Integer.MIN_VALUE, MAX = Integer.MAX_VALUE;
    private static final int UNKNOWN = -1, OUTSIDE = -2, STATE = -3, FULL = -4;
    private static final long LOST = Long.MIN_VALUE;
    private static final Due due = new Due();
    private static final Standing standing = new Standing(due);
    private static final Standing.Maker[] ANY = {RindTalk::new, Standing::sheetsOnly, Standing::some, Standing::full};
    private static final Standing.Maker[] WITHOUT_DAIRY = {RindTalk::new, Standing::sheetsOnly};
    private static final Standing.Maker[] WITH_DAIRY = {Standing::some, Standing::full};

    public static void main(String[] args) {
        dairy();
        ofCheeseAndTalk();
        moves();
        undo();
        wall();
        whereHeardLayerDeep();
        cuts();
        cutsPairByPair();
        spareAndShelve();
        commonAndAlone();
        readings();
        back();
        setsOfReadings();
        odds();
        sheet();
        lose();
        put();
        cell();
        copy();
        tellTapAs();
        many();
        questionsChangeNothing();
        whatIsTakenBackIsGone();
        due.end();
    }

    /** Of a call that names faults, on objects in several states. */
    private static void faulty(String name, Standing.Maker[] makers, Standing.Call call, long answer, int fault) {
        for (Standing.Maker maker : makers) {
            standing.stays("promise " + name, maker, call, answer, fault);
        }
    }

    private static void some(String name, Standing.Call call, long answer, int fault) {
        standing.stays("promise " + name, Standing::some, call, answer, fault);
    }

    /** Of a call that names no faults. */
    private static void quiet(String name, Standing.Maker[] makers, Standing.Call call, long answer) {
        for (Standing.Maker maker : makers) {
            standing.staysAll("promise " + name, maker, call, answer);
        }
    }

    private static void some(String name, Standing.Call call, long answer) {
        standing.staysAll("promise " + name, Standing::some, call, answer);
    }

    private static void dairy() {
        for (int sheet : new int[] {-1, 4, MIN, MAX}) {
            faulty("2 UNKNOWN, ahead of all", ANY, x -> x.dairy(sheet, 3, -1, -1), UNKNOWN, 0);
        }
        for (int lane : new int[] {-1, 3, MIN, MAX}) {
            faulty("2 OUTSIDE, ahead of NULL", ANY, x -> x.dairy(3, lane, -1, -1), OUTSIDE, 0);
            some("2 OUTSIDE, ahead of CAST", x -> x.dairy(0, lane, -1, -1), OUTSIDE, 0);
        }
        for (int lane = 0; lane < 3; lane++) {
            int taken = lane;
            faulty("2 NULL (nothing is no CAST), ahead of SIZE", ANY, x -> x.dairy(3, taken, -1, -1), -11, 1);
            some("2 CAST, ahead of SIZE", x -> x.dairy((taken + 1) % 3, taken, -1, -1), -12, 2);
            some("2 CAST", x -> x.dairy((taken + 2) % 3, taken, 0, 0), -12, 2);
            some("2 SIZE, ahead of INDEX", x -> x.dairy(taken, taken, -1, -1), -14, 4);
            some("2 SIZE", x -> x.dairy(taken, taken, 0, MIN), -14, 4);
        }
        int[][] beyond = {{-1, 0}, {6, 0}, {0, 6}, {1, 5}, {5, 1}, {-1, 1}, {MAX, 1}, {1, MAX}, {MAX, MAX}, {MIN, 0}, {MIN, MAX}};
        for (int[] b : beyond) {
            some("2 INDEX " + b[0] + " " + b[1], x -> x.dairy(0, 0, b[0], b[1]), -13, 3);
        }
        some("2 FIRST FAULT, no codes", x -> x.dairy(0, 0, 5, 0), -100, 0);
        some("2 FIRST FAULT, no codes", x -> x.dairy(0, 0, 0, 0), -100, 0);
        some("2 FIRST FAULT, all cells", x -> x.dairy(0, 0, 0, 5), -100, 0);
    }

    private static void ofCheeseAndTalk() {
        for (int n : new int[] {-1, 5, 8, MIN, MAX}) {
            some("3 UNKNOWN", x -> x.ofCheese(n, 4), UNKNOWN);
            some("4 UNKNOWN", x -> x.ofTalk(n, 3), UNKNOWN);
            some("3 OUTSIDE", x -> x.ofCheese(2, n), OUTSIDE);
            some("4 OUTSIDE", x -> x.ofTalk(4, n), OUTSIDE);
        }
        some("3 UNKNOWN, one behind the last", x -> x.ofCheese(3, 0), UNKNOWN);
        some("4 UNKNOWN, one behind the last", x -> x.ofTalk(5, 0), UNKNOWN);
        quiet("3 UNKNOWN", WITHOUT_DAIRY, x -> x.ofCheese(0, 0), UNKNOWN);
        quiet("4 UNKNOWN", WITHOUT_DAIRY, x -> x.ofTalk(0, 0), UNKNOWN);
    }

    private static void moves() {
        for (int n : new int[] {-1, 3, MIN, MAX}) {
            some("5 UNKNOWN (CHEESE), ahead of OUTSIDE", x -> x.move(n, 8, 0), UNKNOWN);
            some("5 UNKNOWN (CELLAR), ahead of OUTSIDE", x -> x.move(0, 8, n), UNKNOWN);
            some("5 UNKNOWN (both)", x -> x.move(n, 0, n), UNKNOWN);
        }
        for (int day : new int[] {-1, 8, -9, MIN, MAX}) {
            quiet("5 OUTSIDE, ahead of FULL", WITH_DAIRY, x -> x.move(2, day, 2), OUTSIDE);
        }
        quiet("5 UNKNOWN", WITHOUT_DAIRY, x -> x.move(0, 0, 0), UNKNOWN);
        for (int day = 0; day < 8; day++) {
            int from = day;
            standing.staysAll("promise 5 FULL", Standing::full, x -> x.move(from % 4, from, 4), FULL);
        }
        standing.staysAll("promise 5 UNKNOWN (CHEESE), ahead of FULL", Standing::full, x -> x.move(4, 0, 0), UNKNOWN);
        standing.staysAll("promise 5 UNKNOWN (CELLAR), ahead of FULL", Standing::full, x -> x.move(0, 0, 5), UNKNOWN);
    }

    private static void undo() {
        for (int k : new int[] {-1, 9, MIN, MAX}) {
            quiet("6 OUTSIDE", ANY, x -> x.undo(k), OUTSIDE);
        }
        some("6 OUTSIDE, one more than there are", x -> x.undo(4), OUTSIDE);
        quiet("6 OUTSIDE, one more than none", WITHOUT_DAIRY, x -> x.undo(1), OUTSIDE);
        some("6 none is taken back", x -> x.undo(0), 3);
        standing.staysAll("promise 6 none is taken back", Standing::full, x -> x.undo(0), 8);
        quiet("6 none is taken back", WITHOUT_DAIRY, x -> x.undo(0), 0);
    }

    private static void wall() {
        for (int n : new int[] {-1, 8, -8, -10, MIN, MAX}) {
            quiet("7 UNKNOWN, ahead of OUTSIDE", ANY, x -> x.wall(n, 8), UNKNOWN);
            quiet("7 OUTSIDE", WITH_DAIRY, x -> x.wall(1, n), OUTSIDE);
        }
        some("7 UNKNOWN, one behind the last", x -> x.wall(3, 0), UNKNOWN);
        some("7 the same day again", x -> x.wall(1, 4), 4);
        some("7 never, again", x -> x.wall(0, -9), -9);
        quiet("7 UNKNOWN", WITHOUT_DAIRY, x -> x.wall(0, 0), UNKNOWN);
    }

    private static void whereHeardLayerDeep() {
        for (int n : new int[] {-1, 8, -9, MIN, MAX}) {
            quiet("8 UNKNOWN, ahead of OUTSIDE", ANY, x -> x.where(n, 8), UNKNOWN);
            quiet("8 OUTSIDE", WITH_DAIRY, x -> x.where(0, n), OUTSIDE);
            quiet("9 UNKNOWN", ANY, x -> x.heard(n), UNKNOWN);
            quiet("10 UNKNOWN", ANY, x -> x.layer(n, 0), UNKNOWN);
            quiet("11 UNKNOWN (CHEESE)", ANY, x -> x.deep(n, 0), UNKNOWN);
            quiet("11 UNKNOWN (WORD)", ANY, x -> x.deep(0, n), UNKNOWN);
        }
        for (int d : new int[] {-1, -9, MIN}) {
            quiet("10 UNKNOWN, d below 0", WITH_DAIRY, x -> x.layer(0, d), UNKNOWN);
        }
        for (int d : new int[] {4, 7, 8, MAX}) {
            some("10 NONE, there are fewer", x -> x.layer(0, d), -9);
        }
        quiet("8 UNKNOWN", WITHOUT_DAIRY, x -> x.where(0, 0), UNKNOWN);
        some("8 UNKNOWN, one behind the last", x -> x.where(3, 0), UNKNOWN);
        some("9 UNKNOWN, one behind the last", x -> x.heard(3), UNKNOWN);
        some("10 UNKNOWN, one behind the last", x -> x.layer(3, 0), UNKNOWN);
        some("11 UNKNOWN, one behind the last", x -> x.deep(3, 0), UNKNOWN);
    }

    private static void cuts() {
        for (int n : new int[] {-1, 4, 21, MIN, MAX}) {
            faulty("12 UNKNOWN, ahead of all", ANY, x -> x.cuts(n, 3, -1, 21, 2), UNKNOWN, 0);
            faulty("12 OUTSIDE (lane), ahead of NULL", ANY, x -> x.cuts(3, n, -1, 1, 0), OUTSIDE, 0);
            faulty("12 OUTSIDE (what), ahead of NULL", ANY, x -> x.cuts(3, 0, -1, 1, n), OUTSIDE, 0);
            some("12 OUTSIDE (lane), ahead of INDEX", x -> x.cuts(2, n, -1, 1, 0), OUTSIDE, 0);
        }
        for (int n : new int[] {-1, 21, MIN, MAX, 1 << 30, 1 << 31}) {
            faulty("12 OUTSIDE (n), ahead of NULL", ANY, x -> x.cuts(3, 0, -1, n, 0), OUTSIDE, 0);
            some("12 OUTSIDE (n), ahead of CAST", x -> x.cuts(2, 0, -1, n, 0), OUTSIDE, 0);
        }
        for (int lane = 0; lane < 3; lane++) {
            int taken = lane;
            faulty("12 NULL (nothing is no CAST), ahead of INDEX", ANY, x -> x.cuts(3, taken, -1, 1, 0), -11, 1);
            some("12 CAST, ahead of INDEX", x -> x.cuts((taken + 1) % 3, taken, -1, 1, 1), -12, 2);
            some("12 CAST", x -> x.cuts((taken + 2) % 3, taken, 0, 0, 0), -12, 2);
        }
        int[][] beyond = {{-1, 0}, {7, 0}, {0, 4}, {1, 3}, {5, 1}, {-1, 1}, {MAX, 20}, {MAX, 0}, {MIN, 20}};
        for (int[] b : beyond) {
            some("12 INDEX " + b[0] + " " + b[1], x -> x.cuts(2, 2, b[0], b[1], 0), -13, 3);
            standing.stays("promise 12 INDEX, ahead of STATE", Standing::sheetsOnly, x -> x.cuts(2, 2, b[0], b[1], 0), -13, 3);
        }
        standing.stays("promise 12 CAST, ahead of STATE", Standing::sheetsOnly, x -> x.cuts(2, 1, 0, 1, 0), -12, 2);
        standing.stays("promise 12 STATE", Standing::sheetsOnly, x -> x.cuts(2, 2, 0, 3, 0), STATE, 0);
        standing.stays("promise 12 STATE, no pairs", Standing::sheetsOnly, x -> x.cuts(2, 2, 6, 0, 1), STATE, 0);
        standing.stays("promise 12 STATE, ahead of a pair's", Standing::sheetsOnly, x -> x.cuts(0, 0, 1, 2, 0), STATE, 0);
    }

    private static void cutsPairByPair() {
        // Cells 2 .. 5 of SHEET 2: 1 3, 2 8; cells 3 .. 4: 3 2; cells 1 .. 4 of SHEET 0: -1 127, -128 5.
        some("12 UNKNOWN of a pair, one behind the last CHEESE", x -> x.cuts(2, 2, 3, 1, 0), UNKNOWN, 0);
        some("12 UNKNOWN of a pair, ahead of OUTSIDE", x -> x.cuts(0, 0, 1, 2, 1), UNKNOWN, 0);
        some("12 UNKNOWN of a pair", x -> x.cuts(1, 1, 0, 1, 1), UNKNOWN, 0);
        some("12 OUTSIDE of a pair", x -> x.cuts(0, 0, 0, 2, 1), OUTSIDE, 0);
        some("12 good pairs", x -> x.cuts(2, 2, 0, 3, 1), -9, 0);
        some("12 none", x -> x.cuts(2, 2, 6, 0, 1), -9, 0);
    }

    private static void spareAndShelve() {
        for (int k : new int[] {-2, -9, MIN}) {
            quiet("13 UNKNOWN, ahead of OUTSIDE", ANY, x -> x.spare(256, -1, k), UNKNOWN);
            quiet("14 UNKNOWN", ANY, x -> x.shelve(k), UNKNOWN);
        }
        for (int set : new int[] {-1, 256, MIN, MAX}) {
            quiet("13 OUTSIDE, ahead of STATE", ANY, x -> x.spare(set, 0, -1), OUTSIDE);
            quiet("13 OUTSIDE, ahead of STATE", ANY, x -> x.spare(0, set, 0), OUTSIDE);
        }
        for (int k : new int[] {-1, 0, 4, MAX}) {
            quiet("13 STATE", WITHOUT_DAIRY, x -> x.spare(0, 0, k), STATE);
            quiet("14 STATE", WITHOUT_DAIRY, x -> x.shelve(k), STATE);
        }
        for (int k : new int[] {4, 5, MAX}) {
            quiet("13 NONE, no such CHEESE", WITH_DAIRY, x -> x.spare(0, 0, k), -9);
            quiet("14 NONE, no such CHEESE", WITH_DAIRY, x -> x.shelve(k), -9);
        }
        some("13 NONE, one behind the last", x -> x.spare(0, 0, 3), -9);
        some("14 NONE, one behind the last", x -> x.shelve(3), -9);
    }

    private static void commonAndAlone() {
        quiet("15 STATE", WITHOUT_DAIRY, x -> x.common(), STATE);
        for (int k : new int[] {-1, 4, -9, MIN, MAX}) {
            quiet("16 UNKNOWN", ANY, x -> x.alone(k), UNKNOWN);
        }
        quiet("16 UNKNOWN", WITHOUT_DAIRY, x -> x.alone(0), UNKNOWN);
        some("16 UNKNOWN, one behind the last", x -> x.alone(3), UNKNOWN);
    }

    private static void readings() {
        for (int n : new int[] {-1, 8, -8, -10, MIN, MAX}) {
            quiet("17 UNKNOWN (CHEESE), ahead of OUTSIDE", ANY, x -> x.reading(n, 8, 0), UNKNOWN);
            quiet("17 UNKNOWN (WORD), ahead of OUTSIDE", ANY, x -> x.reading(0, 8, n), UNKNOWN);
            quiet("17 OUTSIDE, ahead of FULL", WITH_DAIRY, x -> x.reading(0, n, 0), OUTSIDE);
            quiet("17 OUTSIDE, ahead of FULL", WITH_DAIRY, x -> x.reading(0, n, -9), OUTSIDE);
        }
        some("17 UNKNOWN, one behind the last", x -> x.reading(3, 0, 0), UNKNOWN);
        quiet("17 UNKNOWN", WITHOUT_DAIRY, x -> x.reading(0, 0, 0), UNKNOWN);
        for (int layer = 0; layer < 8; layer++) {
            int at = layer;
            standing.staysAll("promise 17 FULL", Standing::full, x -> x.reading(at % 4, at, at), FULL);
            standing.staysAll("promise 17 FULL", Standing::full, x -> x.reading(at % 4, at, -9), FULL);
        }
    }

    private static void back() {
        for (int k : new int[] {-1, 9, MIN, MAX}) {
            quiet("18 OUTSIDE", ANY, x -> x.back(k), OUTSIDE);
        }
        some("18 OUTSIDE, one more than there are", x -> x.back(3), OUTSIDE);
        quiet("18 OUTSIDE, one more than none", WITHOUT_DAIRY, x -> x.back(1), OUTSIDE);
        some("18 none is taken back", x -> x.back(0), 2);
        standing.staysAll("promise 18 none is taken back", Standing::full, x -> x.back(0), 8);
        quiet("18 none is taken back", WITHOUT_DAIRY, x -> x.back(0), 0);
    }

    private static void setsOfReadings() {
        for (int n : new int[] {-1, 8, -9, MIN, MAX}) {
            quiet("19 UNKNOWN", ANY, x -> x.louds(n), UNKNOWN);
            quiet("20 UNKNOWN", ANY, x -> x.words(n), UNKNOWN);
            quiet("21 UNKNOWN", ANY, x -> x.kinds(n), UNKNOWN);
            quiet("22 UNKNOWN", ANY, x -> x.lay(n), UNKNOWN);
        }
        some("19 UNKNOWN, one behind the last", x -> x.louds(5), UNKNOWN);
        some("20 UNKNOWN, one behind the last", x -> x.words(5), UNKNOWN);
        some("21 UNKNOWN, one behind the last", x -> x.kinds(3), UNKNOWN);
        some("22 UNKNOWN, one behind the last", x -> x.lay(3), UNKNOWN);
    }

    private static void odds() {
        for (int n : new int[] {-1, 8, -9, MIN, MAX}) {
            quiet("23 UNKNOWN (CHEESE)", ANY, x -> x.odds(n, 0, 0), LOST);
            quiet("23 UNKNOWN (WORD)", ANY, x -> x.odds(0, n, 0), LOST);
            quiet("23 OUTSIDE", ANY, x -> x.odds(0, 0, n), LOST);
        }
        some("23 UNKNOWN, one behind the last", x -> x.odds(3, 0, 0), LOST);
        some("23 OUTSIDE, one beyond", x -> x.odds(0, 0, 2), LOST);
    }

    private static void sheet() {
        for (int n : new int[] {-1, 4, MIN, MAX}) {
            faulty("24 UNKNOWN, ahead of OUTSIDE", ANY, x -> x.sheet(n, 3, 61), UNKNOWN, 0);
            faulty("24 UNKNOWN, ahead of SIZE", ANY, x -> x.sheet(n, 0, -1), UNKNOWN, 0);
            faulty("24 OUTSIDE (lane), ahead of SIZE", ANY, x -> x.sheet(2, n, -1), OUTSIDE, 0);
        }
        for (int n : new int[] {61, 62, MAX}) {
            faulty("24 OUTSIDE (n)", ANY, x -> x.sheet(2, 2, n), OUTSIDE, 0);
        }
        for (int n : new int[] {-1, -2, MIN}) {
            faulty("24 SIZE", ANY, x -> x.sheet(2, 1, n), -14, 4);
        }
    }

    private static void lose() {
        for (int k : new int[] {-1, 4, MIN, MAX}) {
            quiet("25 UNKNOWN", ANY, x -> x.lose(k), UNKNOWN);
        }
        quiet("25 it had nothing", ANY, x -> x.lose(3), 0);
    }

    private static void put() {
        for (int k : new int[] {-1, 4, MIN, MAX}) {
            faulty("26 UNKNOWN, ahead of INDEX", ANY, x -> x.put(k, -1, 9), UNKNOWN, 0);
        }
        for (int i : new int[] {-1, 0, 60, MIN, MAX}) {
            faulty("26 NULL, ahead of INDEX", ANY, x -> x.put(3, i, 9), -11, 1);
        }
        for (int i : new int[] {-1, 5, 59, 60, MIN, MAX}) {
            some("26 INDEX", x -> x.put(0, i, 9), -13, 3);
        }
    }

    private static void cell() {
        for (int n : new int[] {-1, 4, MIN, MAX}) {
            faulty("27 UNKNOWN, ahead of all", ANY, x -> x.cell(n, -1, 3), LOST, 0);
            faulty("27 OUTSIDE, ahead of NULL", ANY, x -> x.cell(3, -1, n), LOST, 0);
            some("27 OUTSIDE, ahead of CAST", x -> x.cell(0, -1, n), LOST, 0);
        }
        for (int lane = 0; lane < 3; lane++) {
            int taken = lane;
            faulty("27 NULL (nothing is no CAST), ahead of INDEX", ANY, x -> x.cell(3, -1, taken), LOST, 1);
            some("27 CAST, ahead of INDEX", x -> x.cell((taken + 1) % 3, -1, taken), LOST, 2);
            some("27 CAST", x -> x.cell((taken + 2) % 3, 0, taken), LOST, 2);
        }
        for (int i : new int[] {-1, 5, 59, 60, MIN, MAX}) {
            some("27 INDEX", x -> x.cell(0, i, 0), LOST, 3);
        }
        some("27 the last cell", x -> x.cell(0, 4, 0), 5, 0);
    }

    private static void copy() {
        for (int n : new int[] {-1, 4, MIN, MAX}) {
            faulty("28 UNKNOWN, ahead of NULL", ANY, x -> x.copy(n, 0, 3, 0, 0), UNKNOWN, 0);
            faulty("28 UNKNOWN (other), ahead of NULL", ANY, x -> x.copy(3, 0, n, 0, 0), UNKNOWN, 0);
        }
        faulty("28 NULL (both)", ANY, x -> x.copy(3, 0, 3, 0, 0), -11, 1);
        for (int k = 0; k < 3; k++) {
            int there = k;
            some("28 NULL (the first), whatever the LANE of the other", x -> x.copy(3, -1, there, -1, -1), -11, 1);
            some("28 NULL (the other), whatever the LANE of the first", x -> x.copy(there, -1, 3, -1, -1), -11, 1);
        }
        some("28 CAST, ahead of INDEX", x -> x.copy(0, -1, 1, -1, -1), -12, 2);
        some("28 CAST, of none", x -> x.copy(1, 0, 2, 0, 0), -12, 2);
        int[][] beyond = {{-1, 0, 0}, {0, -1, 0}, {0, 0, -1}, {7, 0, 0}, {0, 7, 0}, {0, 0, 7}, {3, 0, 4}, {0, 3, 4}, {6, 0, 1}, {0, 6, 1},
            {MAX, 0, MAX}, {0, MAX, MAX}, {MIN, MIN, MIN}, {1, 0, MAX}, {0, 1, MAX}};
        for (int[] b : beyond) {
            some("28 INDEX " + b[0] + " " + b[1] + " " + b[2], x -> x.copy(2, b[0], 2, b[1], b[2]), -13, 3);
        }
        some("28 none, from end to end", x -> x.copy(2, 6, 2, 6, 0), 0, 0);
        some("28 all, on themselves", x -> x.copy(2, 0, 2, 0, 6), 6, 0);
    }

    private static void tellTapAs() {
        for (int k : new int[] {-1, 4, MIN, MAX}) {
            quiet("29 UNKNOWN", ANY, x -> x.tell(k), UNKNOWN);
            quiet("30 UNKNOWN", ANY, x -> x.tap(k), UNKNOWN);
            faulty("31 UNKNOWN, ahead of OUTSIDE", ANY, x -> x.as(k, 3), UNKNOWN, 0);
            faulty("31 OUTSIDE", WITH_DAIRY, x -> x.as(2, k), OUTSIDE, 0);
        }
        some("29 UNKNOWN, one behind the last", x -> x.tell(3), UNKNOWN);
        some("30 UNKNOWN, one behind the last", x -> x.tap(3), UNKNOWN);
        some("31 UNKNOWN, one behind the last", x -> x.as(3, 0), UNKNOWN, 0);
        some("31 OUTSIDE, one beyond", x -> x.as(0, 3), OUTSIDE, 0);
        faulty("31 CAST", WITH_DAIRY, x -> x.as(0, 1), -12, 2);
        faulty("31 CAST", WITH_DAIRY, x -> x.as(0, 2), -12, 2);
        faulty("31 CAST", WITH_DAIRY, x -> x.as(1, 2), -12, 2);
        faulty("31 a MITED one is WAXED", WITH_DAIRY, x -> x.as(2, 1), 1, 0);
    }

    private static void many() {
        for (int what : new int[] {-1, 5, MIN, MAX}) {
            quiet("34 OUTSIDE", ANY, x -> x.many(what), OUTSIDE);
        }
    }

    /** Calls that only ask leave all as it was, the values that louds, words, kinds and lay try, too. */
    private static void questionsChangeNothing() {
        for (int n = 0; n < 4; n++) {
            int k = n;
            quiet("3 to 11 ask only", WITH_DAIRY, x -> 0 * (x.ofCheese(k, 3) + x.ofTalk(k, 2) + x.where(k, 7) + x.heard(k)
                + x.layer(k, 0) + x.deep(k, 7)), 0);
            quiet("13 asks only", WITH_DAIRY, x -> 0 * (x.spare(2, 1, k) + x.spare(255, 0, k) + x.spare(8, 0, -1)), 0);
            quiet("14 asks only", WITH_DAIRY, x -> 0 * (x.shelve(k) + x.shelve(-1)), 0);
            quiet("15, 16 ask only", WITH_DAIRY, x -> 0 * (x.common() + x.alone(k)), 0);
            quiet("19 asks only", WITH_DAIRY, x -> 0 * x.louds(k), 0);
            quiet("20 asks only", WITH_DAIRY, x -> 0 * x.words(k), 0);
            quiet("21 asks only", WITH_DAIRY, x -> 0 * x.kinds(k), 0);
            quiet("22 asks only", WITH_DAIRY, x -> 0 * x.lay(k), 0);
            quiet("23 asks only", WITH_DAIRY, x -> 0 * (x.odds(k, 1, 0) + x.odds(k, 7, 1)), 0);
            quiet("32 to 34 ask only", WITH_DAIRY, x -> 0 * (x.trace() + x.fault() + x.many(k)), 0);
        }
    }

    /** What was told and is taken back again leaves all as it was. */
    private static void whatIsTakenBackIsGone() {
        some("5, 6 a move and back", x -> x.move(2, 1, 0) + 100 * x.undo(1), 3 + 300);
        some("5, 6 five moves and back", x -> {
            for (int m = 3; m < 8; m++) {
                due.is("promise 5, number", x.move(m % 3, m, 1), m);
            }
            return x.undo(5);
        }, 3);
        some("17, 18 a reading and back", x -> x.reading(1, 0, 5) + 100 * x.back(1), 2 + 200);
        some("17, 18 six readings and back", x -> {
            for (int r = 2; r < 8; r++) {
                due.is("promise 17, number", x.reading(r % 3, r, -9), r);
            }
            return x.back(6);
        }, 2);
        some("7 turned and back", x -> x.wall(1, 0) + 100 * x.wall(1, 4), 4);
        some("7 turned and back", x -> x.wall(2, 7) + 100 * x.wall(2, -9), -9 + 700);
    }
}
