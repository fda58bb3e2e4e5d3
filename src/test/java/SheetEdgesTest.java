import java.math.BigInteger;

/** Terms 5, promises 1 and 24 to 34: the edges of sheets, of bodies and their trace, of faults and of counts. */
public final class SheetEdgesTest {
    private static final int MIN = Integer.MIN_VALUE, MAX = Integer.MAX_VALUE;
    private static final long LOST = Long.MIN_VALUE;
    private static final Due due = new Due();

    public static void main(String[] args) {
        aNewObject();
        fourSheets();
        threeLanes();
        rowsOfZeroToSixty();
        aNewRowIsAllZeros();
        sheetRefusalsInTheirOrder();
        nothingAndARowOfNone();
        cellsOfARow();
        cutToALane();
        cellsTakenAsALane();
        copiesOfNone();
        copiesUpToTheEnds();
        copiesWithinARow();
        copiesAsTheyWere();
        copyFaultsInTheirOrder();
        tellings();
        taps();
        traceWrapsAround();
        kinds();
        faultsOfTheLatestCall();
        manyOfEach();
        fiveHundredAndTwelveCalls();
        due.end();
    }

    private static void is(String name, long got, long want) {
        due.is(name, got, want);
    }

    // Promise 1: 'No DAIRY (no CELLARS, CHEESES, TALKS), SHEETS have nothing.'
    private static void aNewObject() {
        RindTalk x = new RindTalk();
        is("promise 1, by promise 33, 0 ahead of any", x.fault(), 0);
        is("promise 1, by promise 32, 0 at first", x.trace(), 0);
        for (int what = 0; what < 5; what++) {
            is("promise 1, by promise 34, 0 all without a DAIRY", x.many(what), 0);
        }
        for (int k = 0; k < 4; k++) {
            for (int lane = 0; lane < 3; lane++) {
                is("promise 1, by promise 27, a SHEET has nothing", x.cell(k, 0, lane), LOST);
                is("promise 1, by promise 33, NULL", x.fault(), 1);
                is("promise 1, by promise 2, a SHEET has nothing", x.dairy(k, lane, 0, 0), -11);
                is("promise 1, by promise 12, a SHEET has nothing", x.cuts(k, lane, 0, 0, 0), -11);
            }
            is("promise 1, by promise 26, a SHEET has nothing", x.put(k, 0, 1), -11);
            is("promise 1, by promise 28, a SHEET has nothing", x.copy(k, 0, k, 0, 0), -11);
            is("promise 1, by promise 25, a SHEET has nothing", x.lose(k), 0);
        }
        is("promise 1, by promise 29, no CHEESE", x.tell(0), -1);
        is("promise 1, by promise 30, no CHEESE", x.tap(0), -1);
        is("promise 1, by promise 31, no CHEESE", x.as(0, 0), -1);
        is("promise 1, by promise 31, UNKNOWN ahead of OUTSIDE", x.as(0, 3), -1);
        is("promise 1, by promise 32, still 0", x.trace(), 0);
    }

    // Terms 5: 'SHEETS 0 .. 3'
    private static void fourSheets() {
        RindTalk x = new RindTalk();
        for (int k = 0; k < 4; k++) {
            is("promise 24, SHEET " + k, x.sheet(k, 2, 1), 1);
            is("promise 26, SHEET " + k, x.put(k, 0, 10 + k), 1);
        }
        for (int k = 0; k < 4; k++) {
            is("promise 27, each has its own", x.cell(k, 0, 2), 10 + k);
        }
        for (int k : new int[] {-1, 4, MIN, MAX}) {
            is("promise 24, no such SHEET", x.sheet(k, 0, 1), -1);
            is("promise 25, no such SHEET", x.lose(k), -1);
            is("promise 26, no such SHEET", x.put(k, 0, 1), -1);
            is("promise 27, no such SHEET", x.cell(k, 0, 2), LOST);
            is("promise 28, no such SHEET", x.copy(k, 0, 0, 0, 1), -1);
            is("promise 28, no such other SHEET", x.copy(0, 0, k, 0, 1), -1);
            is("promise 2, no such SHEET", x.dairy(k, 2, 0, 1), -1);
            is("promise 12, no such SHEET", x.cuts(k, 2, 0, 0, 0), -1);
        }
        for (int k = 0; k < 4; k++) {
            is("promise 25, SHEET " + k, x.lose(k), 1);
            is("promise 25, SHEET " + k + " again", x.lose(k), 0);
            for (int other = k + 1; other < 4; other++) {
                is("promise 27, the others stay", x.cell(other, 0, 2), 10 + other);
            }
        }
    }

    // Terms 5: 'of a LANE: 0 bytes, 1 shorts, 2 ints'
    private static void threeLanes() {
        RindTalk x = new RindTalk();
        for (int lane = 0; lane < 3; lane++) {
            is("promise 24, lane " + lane, x.sheet(0, lane, 1), 1);
            for (int taken = 0; taken < 3; taken++) {
                is("promise 27, " + lane + " as " + taken, x.cell(0, 0, taken), taken == lane ? 0 : LOST);
                is("promise 33, " + lane + " as " + taken, x.fault(), taken == lane ? 0 : 2);
            }
        }
        for (int lane : new int[] {-1, 3, MIN, MAX}) {
            is("promise 24, no such lane", x.sheet(0, lane, 1), -2);
            is("promise 27, no such lane", x.cell(0, 0, lane), LOST);
            is("promise 33, refused", x.fault(), 0);
            is("promise 2, no such lane", x.dairy(0, lane, 0, 1), -2);
            is("promise 12, no such lane", x.cuts(0, lane, 0, 0, 0), -2);
        }
        is("promise 27, still of lane 2", x.cell(0, 0, 2), 0);
    }

    // Terms 5: 'a row of 0 .. 60 numbers'
    private static void rowsOfZeroToSixty() {
        for (int lane = 0; lane < 3; lane++) {
            for (int n : new int[] {0, 1, 2, 59, 60}) {
                RindTalk x = new RindTalk();
                is("promise 24, a row of " + n, x.sheet(0, lane, n), 1);
                is("promise 26, its last cell", x.put(0, n - 1, 5), n == 0 ? -13 : 1);
                is("promise 26, behind its last cell", x.put(0, n, 5), -13);
                is("promise 27, its last cell", x.cell(0, n - 1, lane), n == 0 ? LOST : 5);
                is("promise 27, behind its last cell", x.cell(0, n, lane), LOST);
                is("promise 33, INDEX", x.fault(), 3);
                is("promise 28, all of it", x.copy(0, 0, 0, 0, n), n);
                is("promise 28, one more", x.copy(0, 0, 0, 0, n + 1), -13);
            }
            RindTalk x = new RindTalk();
            for (int n : new int[] {61, 62, MAX}) {
                is("promise 24, n above 60", x.sheet(0, lane, n), -2);
                is("promise 33, refused", x.fault(), 0);
            }
            for (int n : new int[] {-1, -9, MIN}) {
                is("promise 24, SIZE", x.sheet(0, lane, n), -14);
                is("promise 33, SIZE", x.fault(), 4);
            }
            is("promise 25, it has nothing still", x.lose(0), 0);
        }
    }

    // Terms 5: '(0 at first)'; promise 24: 'A SHEET gets a new row'
    private static void aNewRowIsAllZeros() {
        RindTalk x = new RindTalk();
        x.sheet(0, 2, 60);
        for (int i = 0; i < 60; i++) {
            x.put(0, i, -1);
        }
        is("promise 24, a shorter one", x.sheet(0, 1, 30), 1);
        for (int i = 0; i < 30; i++) {
            is("promise 24, 0 at first", x.cell(0, i, 1), 0);
            x.put(0, i, 7);
        }
        is("promise 24, behind it", x.cell(0, 30, 1), LOST);
        is("promise 24, a longer one", x.sheet(0, 0, 60), 1);
        for (int i = 0; i < 60; i++) {
            is("promise 24, 0 at first", x.cell(0, i, 0), 0);
            x.put(0, i, 9);
        }
        is("promise 25, lost", x.lose(0), 1);
        is("promise 24, anew", x.sheet(0, 0, 60), 1);
        for (int i = 0; i < 60; i++) {
            is("promise 24, 0 at first", x.cell(0, i, 0), 0);
        }
    }

    // Promise 24: 'UNKNOWN; OUTSIDE: lane, n above 60; SIZE'
    private static void sheetRefusalsInTheirOrder() {
        RindTalk x = new RindTalk();
        is("promise 24, UNKNOWN ahead of OUTSIDE", x.sheet(4, 3, 61), -1);
        is("promise 24, UNKNOWN ahead of SIZE", x.sheet(-1, 0, -1), -1);
        is("promise 24, OUTSIDE (lane) ahead of SIZE", x.sheet(0, 3, -1), -2);
        is("promise 24, OUTSIDE (n)", x.sheet(0, 0, 61), -2);
        is("promise 24, SIZE alone", x.sheet(0, 0, -1), -14);
    }

    private static void nothingAndARowOfNone() {
        RindTalk x = new RindTalk();
        x.sheet(0, 1, 0);
        is("promise 27, of a row of none: INDEX", x.cell(0, 0, 1), LOST);
        is("promise 33, INDEX", x.fault(), 3);
        is("promise 27, of a row of none: CAST first", x.cell(0, 0, 0), LOST);
        is("promise 33, CAST", x.fault(), 2);
        is("promise 26, of a row of none: INDEX", x.put(0, 0, 1), -13);
        is("promise 26, of nothing: NULL", x.put(1, 0, 1), -11);
        is("promise 25, a row of none is lost", x.lose(0), 1);
        is("promise 26, then it is nothing", x.put(0, 0, 1), -11);
        is("promise 25, nothing", x.lose(0), 0);
    }

    // Promise 26: 'INDEX'; promise 27: 'INDEX'
    private static void cellsOfARow() {
        RindTalk x = new RindTalk();
        x.sheet(0, 2, 3);
        for (int i = 0; i < 3; i++) {
            is("promise 26, cell " + i, x.put(0, i, 100 + i), 1);
        }
        for (int i : new int[] {-1, 3, 59, 60, MIN, MAX}) {
            is("promise 26, no cell " + i, x.put(0, i, 5), -13);
            is("promise 33, INDEX", x.fault(), 3);
            is("promise 26, a good one", x.put(0, 0, 100), 1);
            is("promise 33, come to none", x.fault(), 0);
            is("promise 27, no cell " + i, x.cell(0, i, 2), LOST);
            is("promise 33, INDEX", x.fault(), 3);
        }
        for (int i = 0; i < 3; i++) {
            is("promise 27, cell " + i, x.cell(0, i, 2), 100 + i);
            is("promise 33, come to none", x.fault(), 0);
        }
    }

    // Terms 5: 'what comes to a cell of it is cut to its LANE'
    private static void cutToALane() {
        int[][] bytes = {{127, 127}, {128, -128}, {-128, -128}, {-129, 127}, {255, -1}, {256, 0}, {-1, -1}, {257, 1}, {MAX, -1}, {MIN, 0}};
        int[][] shorts = {{127, 127}, {128, 128}, {32767, 32767}, {32768, -32768}, {-32768, -32768}, {-32769, 32767}, {65535, -1},
            {65536, 0}, {MAX, -1}, {MIN, 0}};
        int[][] ints = {{MAX, MAX}, {MIN, MIN}, {65536, 65536}, {-32769, -32769}, {0, 0}, {-1, -1}};
        int[][][] lanes = {bytes, shorts, ints};
        for (int lane = 0; lane < 3; lane++) {
            RindTalk x = new RindTalk();
            x.sheet(0, lane, 1);
            for (int[] pair : lanes[lane]) {
                is("promise 26, " + pair[0] + " to lane " + lane, x.put(0, 0, pair[0]), 1);
                is("promise 27, " + pair[0] + " of lane " + lane, x.cell(0, 0, lane), pair[1]);
            }
        }
    }

    // Promise 27: 'LOST: UNKNOWN, OUTSIDE: lane; FAULTS CAST (nothing is no CAST), NULL, INDEX'
    private static void cellsTakenAsALane() {
        RindTalk x = new RindTalk();
        x.sheet(1, 1, 2);
        long[][] rows = {{4, 9, 3, 0}, {1, 9, 3, 0}, {1, 9, 2, 2}, {1, 9, 1, 3}, {1, -1, 1, 3}, {0, 9, 0, 1}, {0, 9, 3, 0}, {1, 2, 1, 3}, {1, 0, 0, 2}};
        for (long[] row : rows) {
            x.put(0, 0, 0);
            String name = "cell(" + row[0] + ", " + row[1] + ", " + row[2] + ")";
            is("promise 27, " + name, x.cell((int) row[0], (int) row[1], (int) row[2]), LOST);
            is("promise 33, " + name, x.fault(), row[3]);
        }
        is("promise 27, there", x.cell(1, 1, 1), 0);
        is("promise 33, come to none", x.fault(), 0);
    }

    // Terms: 'INDEX (of cells from i on also where i is not 0 .. how many there are, if none of them is taken, too)'
    private static void copiesOfNone() {
        RindTalk x = new RindTalk();
        Due.row(x, 0, 1, 2, 3);
        Due.row(x, 1, 4, 5);
        is("promise 28, none from the first", x.copy(0, 0, 1, 0, 0), 0);
        is("promise 28, none from the end", x.copy(0, 3, 1, 0, 0), 0);
        is("promise 28, none to the end", x.copy(0, 0, 1, 2, 0), 0);
        is("promise 28, none from end to end", x.copy(0, 3, 1, 2, 0), 0);
        is("promise 28, none from behind the end", x.copy(0, 4, 1, 0, 0), -13);
        is("promise 28, none to behind the end", x.copy(0, 0, 1, 3, 0), -13);
        is("promise 28, none from ahead of the first", x.copy(0, -1, 1, 0, 0), -13);
        is("promise 28, none to ahead of the first", x.copy(0, 0, 1, -1, 0), -13);
        x.sheet(2, 2, 0);
        is("promise 28, none of a row of none", x.copy(2, 0, 2, 0, 0), 0);
        is("promise 28, one of a row of none", x.copy(2, 0, 0, 0, 1), -13);
        is("promise 28, one to a row of none", x.copy(0, 0, 2, 0, 1), -13);
        is("promise 28, none behind a row of none", x.copy(2, 1, 0, 0, 0), -13);
        rowIs(x, 0, 1, 2, 3);
        rowIs(x, 1, 4, 5);
    }

    private static void rowIs(RindTalk x, int sheet, int... cells) {
        for (int i = 0; i < cells.length; i++) {
            is("promise 28, cell " + i + " of SHEET " + sheet, x.cell(sheet, i, 2), cells[i]);
        }
        is("promise 28, no cell more", x.cell(sheet, cells.length, 2), LOST);
    }

    // Promise 28: 'INDEX: i, j, n below 0 or beyond'
    private static void copiesUpToTheEnds() {
        RindTalk x = new RindTalk();
        Due.row(x, 0, 1, 2, 3);
        Due.row(x, 1, 4, 5);
        is("promise 28, up to both ends", x.copy(0, 1, 1, 0, 2), 2);
        rowIs(x, 1, 2, 3);
        is("promise 28, the last to the last", x.copy(0, 2, 1, 1, 1), 1);
        is("promise 28, the last to the first", x.copy(0, 2, 1, 0, 1), 1);
        rowIs(x, 1, 3, 3);
        int[][] beyond = {{2, 0, 2}, {0, 1, 2}, {0, 0, 3}, {1, 0, 3}, {3, 0, 1}, {0, 2, 1}, {-1, 0, 1}, {0, -1, 1}, {0, 0, -1}, {1, 1, -1},
            {0, 0, MIN}, {0, 0, MAX}, {1, 0, MAX}, {0, 1, MAX}, {MAX, 0, 1}, {0, MAX, 1}, {MAX, MAX, MAX}, {MIN, 0, 1}, {0, MIN, 1},
            {MIN, MIN, MIN}, {MAX, 0, MIN}, {3, 2, MIN}, {4, 0, -1}, {MIN, 0, MAX}};
        for (int[] b : beyond) {
            is("promise 28, i " + b[0] + ", j " + b[1] + ", n " + b[2], x.copy(0, b[0], 1, b[1], b[2]), -13);
            is("promise 33, INDEX", x.fault(), 3);
        }
        rowIs(x, 0, 1, 2, 3);
        rowIs(x, 1, 3, 3);
    }

    // Promise 28: '(perhaps the same) .. as they were'
    private static void copiesWithinARow() {
        for (int from = 0; from <= 4; from++) {
            for (int to = 0; to <= 4; to++) {
                for (int n = 0; n <= 4 - Math.max(from, to); n++) {
                    RindTalk x = new RindTalk();
                    Due.row(x, 3, 10, 11, 12, 13);
                    is("promise 28, within a row", x.copy(3, from, 3, to, n), n);
                    for (int i = 0; i < 4; i++) {
                        int was = i >= to && i < to + n ? i - to + from : i;
                        is("promise 28, as they were, " + from + " " + to + " " + n, x.cell(3, i, 2), 10 + was);
                    }
                }
            }
        }
    }

    private static void copiesAsTheyWere() {
        int[] least = {-128, -32768, MIN};
        int[] most = {127, 32767, MAX};
        RindTalk x = new RindTalk();
        for (int lane = 0; lane < 3; lane++) {
            x.sheet(0, lane, 60);
            x.sheet(1, lane, 60);
            x.put(0, 0, least[lane]);
            x.put(0, 59, most[lane]);
            is("promise 28, all 60", x.copy(0, 0, 1, 0, 60), 60);
            is("promise 28, the first", x.cell(1, 0, lane), least[lane]);
            is("promise 28, the last", x.cell(1, 59, lane), most[lane]);
            x.put(0, 0, 1);
            is("promise 28, a row of its own", x.cell(1, 0, lane), least[lane]);
        }
    }

    // Promise 28: 'UNKNOWN; FAULTS NULL (the first, the other), CAST (unlike LANES), INDEX'
    private static void copyFaultsInTheirOrder() {
        RindTalk x = new RindTalk();
        x.sheet(0, 0, 3);
        x.sheet(1, 1, 3);
        is("promise 28, UNKNOWN ahead of NULL", x.copy(4, 0, 2, 0, 0), -1);
        is("promise 28, UNKNOWN (other) ahead of NULL", x.copy(2, 0, 4, 0, 0), -1);
        is("promise 28, UNKNOWN of both", x.copy(-1, 0, 4, 0, 0), -1);
        is("promise 28, NULL (the first) ahead of INDEX", x.copy(2, -1, 0, -1, -1), -11);
        is("promise 28, NULL (the other) ahead of INDEX", x.copy(0, -1, 2, -1, -1), -11);
        is("promise 28, NULL of both", x.copy(2, 0, 3, 0, 0), -11);
        is("promise 28, NULL of the same", x.copy(2, 0, 2, 0, 0), -11);
        is("promise 33, NULL", x.fault(), 1);
        x.sheet(2, 2, 3);
        x.lose(2);
        is("promise 28, NULL of one that had ints", x.copy(2, 0, 0, 0, 0), -11);
        is("promise 28, NULL of one that had ints", x.copy(1, 0, 2, 0, 0), -11);
        is("promise 27, NULL of one that had ints", x.cell(2, 0, 0), LOST);
        is("promise 33, nothing is no CAST", x.fault(), 1);
        is("promise 28, CAST ahead of INDEX", x.copy(0, -1, 1, -1, -1), -12);
        is("promise 28, CAST ahead of INDEX", x.copy(1, 4, 0, 4, 1), -12);
        is("promise 28, CAST though none is taken", x.copy(0, 0, 1, 0, 0), -12);
        is("promise 33, CAST", x.fault(), 2);
        x.sheet(1, 2, 3);
        is("promise 28, bytes to ints", x.copy(0, 0, 1, 0, 1), -12);
        x.sheet(1, 0, 3);
        is("promise 28, bytes to bytes", x.copy(0, 0, 1, 0, 1), 1);
    }

    // Terms 5, promise 29
    private static void tellings() {
        for (int thick = 0; thick <= 9; thick++) {
            RindTalk x = Due.dairyOf("q1,c0" + thick + ",w0" + thick + ",m0" + thick + ";010");
            is("promise 29, CHEESE", x.tell(0), thick);
            is("promise 32, 1", x.trace(), 1);
            is("promise 29, WAXED", x.tell(1), thick + 100);
            is("promise 32, 2 1", x.trace(), 31 * (31 + 2) + 1);
            is("promise 29, MITED", x.tell(2), thick + 100 + thick);
            is("promise 32, 3 2 1 1", x.trace(), 31 * (31 * (31 * (31 * (31 * (31 + 2) + 1) + 3) + 2) + 1) + 1);
            int trace = x.trace();
            for (int k : new int[] {-1, 3, MIN, MAX}) {
                is("promise 29, no such CHEESE", x.tell(k), -1);
            }
            is("promise 32, no body began", x.trace(), trace);
        }
    }

    // Terms 5, promise 30
    private static void taps() {
        RindTalk x = Due.dairyOf("q1,m09,c09,w09,c00;010");
        int[] told = {70, 1, 2, 3};
        int[] traces = {5, 31 * 5 + 4, 31 * (31 * 5 + 4) + 4, 31 * (31 * (31 * 5 + 4) + 4) + 4};
        for (int k = 0; k < 4; k++) {
            is("promise 30, of " + k, x.tap(k), told[k]);
            is("promise 32, of " + k, x.trace(), traces[k]);
        }
        for (int k : new int[] {-1, 4, MIN, MAX}) {
            is("promise 30, no such CHEESE", x.tap(k), -1);
        }
        is("promise 32, no body began", x.trace(), traces[3]);
        RindTalk y = Due.dairyOf("q1,c09;010");
        is("promise 30, the first CHEESE", y.tap(0), 0);
    }

    // Terms 5: 'TRACE (an int that wraps, 0 at first, becomes 31 times it and the number)'
    private static void traceWrapsAround() {
        RindTalk x = Due.dairyOf("q1,c00,w00,m00;010");
        int[][] bodies = {{1}, {2, 1}, {3, 2, 1, 1}};
        BigInteger trace = BigInteger.ZERO;
        boolean above = false;
        boolean below = false;
        for (int round = 0; round < 60; round++) {
            for (int body : bodies[round % 3]) {
                trace = trace.multiply(BigInteger.valueOf(31)).add(BigInteger.valueOf(body));
            }
            x.tell(round % 3);
            is("promise 32, round " + round, x.trace(), trace.intValue());
            above |= trace.bitLength() > 31;
            below |= x.trace() < 0;
        }
        is("promise 32, it has wrapped", above && below ? 1 : 0, 1);
    }

    // Promise 31: 'UNKNOWN; OUTSIDE; CAST: it is none (each is a CHEESE, too; a MITED one is WAXED)'
    private static void kinds() {
        RindTalk x = Due.dairyOf("q1,c00,w00,m00;010");
        int[][] told = {{1, -12, -12}, {1, 1, -12}, {1, 1, 1}};
        for (int k = 0; k < 3; k++) {
            for (int kind = 0; kind < 3; kind++) {
                is("promise 31, " + k + " as " + kind, x.as(k, kind), told[k][kind]);
                is("promise 33, " + k + " as " + kind, x.fault(), told[k][kind] == 1 ? 0 : 2);
            }
            for (int kind : new int[] {-1, 3, MIN, MAX}) {
                x.as(0, 2);
                is("promise 31, no kind", x.as(k, kind), -2);
                is("promise 33, refused", x.fault(), 0);
            }
        }
        for (int k : new int[] {-1, 3, MIN, MAX}) {
            x.as(0, 2);
            is("promise 31, no such CHEESE", x.as(k, 0), -1);
            is("promise 33, refused", x.fault(), 0);
            is("promise 31, UNKNOWN ahead of OUTSIDE", x.as(k, 3), -1);
        }
        is("promise 3, the kind stays", x.ofCheese(2, 0), 2);
        is("promise 32, no body began", x.trace(), 0);
    }

    // Promise 33: 'The FAULT of the latest call that names one: 0: it came to none, or was refused'
    private static void faultsOfTheLatestCall() {
        RindTalk x = new RindTalk();
        int[] faults = {1, 2, 3, 4};
        x.sheet(1, 1, 2);
        for (int first : faults) {
            for (int then : faults) {
                comeTo(x, first);
                comeTo(x, then);
                is("promise 33, of the latest", x.fault(), then);
                is("promise 33, asked again", x.fault(), then);
            }
            x.trace();
            x.many(0);
            x.lose(0);
            x.lose(4);
            x.undo(1);
            x.common();
            x.tell(0);
            is("promise 33, calls that name none", x.fault(), 4);
            x.put(1, 0, 1);
            is("promise 33, come to none", x.fault(), 0);
        }
    }

    private static void comeTo(RindTalk x, int fault) {
        switch (fault) {
            case 1: is("promise 26, NULL", x.put(0, 0, 0), -11); break;
            case 2: is("promise 2, CAST", x.dairy(1, 0, 0, 0), -12); break;
            case 3: is("promise 28, INDEX", x.copy(1, 0, 1, 0, 3), -13); break;
            default: is("promise 24, SIZE", x.sheet(1, 1, -1), -14); break;
        }
    }

    // Promise 34: '0 TALKS, 1 CHEESES, 2 CELLARS, 3 MOVES, 4 READINGS (0 all without a DAIRY). OUTSIDE.'
    private static void manyOfEach() {
        RindTalk x = Standing.full();
        int[] most = {8, 4, 5, 8, 8};
        RindTalk y = Due.dairyOf("q1,c00;010");
        int[] least = {1, 1, 1, 0, 0};
        for (int what = 0; what < 5; what++) {
            is("promise 34, the most of " + what, x.many(what), most[what]);
            is("promise 34, the least of " + what, y.many(what), least[what]);
        }
        for (int what : new int[] {-1, 5, MIN, MAX}) {
            is("promise 34, OUTSIDE", x.many(what), -2);
            is("promise 34, OUTSIDE without a DAIRY", new RindTalk().many(what), -2);
        }
    }

    // 'An object is used for at most 512 calls after it has been made': the 512th is still as any other
    private static void fiveHundredAndTwelveCalls() {
        RindTalk x = new RindTalk();
        String text = "q1,c00;010";
        Due.write(x, 0, 0, text);
        x.dairy(0, 0, 0, text.length());
        int trace = 0;
        for (int call = 12; call < 511; call++) {
            is("promise 30, call " + (call + 1), x.tap(0), 0);
            trace = 31 * trace + 4;
        }
        is("promise 32, the 512th call", x.trace(), trace);
    }
}
