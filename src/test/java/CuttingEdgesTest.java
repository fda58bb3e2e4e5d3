/** Terms 2 and 3, promises 12 to 16: the edges of cuts, of spare, of shelve, and of what all or one alone know. */
public final class CuttingEdgesTest {
    private static final int MIN = Integer.MIN_VALUE, MAX = Integer.MAX_VALUE;
    private static final Due due = new Due();
    /** Words 0 .. 7, the last one by the rind; heard by all three, by mites only 6, 4, 2, 0. */
    private static final String ALL_WORDS = "q2,c01,w00,m00;010;011;012;013;014;015;016;017";

    public static void main(String[] args) {
        cutsOfZeroToTwentyPairs();
        cutsOfDepths();
        cutsOfCheeses();
        cutsPairByPair();
        cutsOfCells();
        cutsOfLanes();
        cutsFaultsInTheirOrder();
        cutsThatAreIdle();
        cutsWithoutADairy();
        sparedSets();
        sparedCheeses();
        sparedDepths();
        sparedRows();
        sparedNone();
        shelvedCheeses();
        shelvedRows();
        shelvedTurned();
        shelvedWithoutMoves();
        commonOfAll();
        aloneOfOne();
        due.end();
    }

    private static void is(String name, long got, long want) {
        due.is(name, got, want);
    }

    // Promise 12: 'n (0 .. 20)'
    private static void cutsOfZeroToTwentyPairs() {
        RindTalk x = Due.dairyOf(ALL_WORDS);
        x.sheet(0, 0, 60);
        is("promise 12, n -1", x.cuts(0, 0, 0, -1, 0), -2);
        is("promise 12, n 21", x.cuts(0, 0, 0, 21, 0), -2);
        is("promise 12, n 30, as many as the row has", x.cuts(0, 0, 0, 30, 0), -2);
        is("promise 12, the least n", x.cuts(0, 0, 0, MIN, 0), -2);
        is("promise 12, the most n", x.cuts(0, 0, 0, MAX, 0), -2);
        is("promise 12, 2 n would wrap to 0", x.cuts(0, 0, 0, 1 << 31, 0), -2);
        is("promise 12, 2 n would wrap to 2", x.cuts(0, 0, 0, (1 << 31) + 1, 0), -2);
        is("promise 12, no pairs have nothing", x.cuts(0, 0, 0, 0, 0), 0);
        is("promise 12, no pairs, none is IDLE", x.cuts(0, 0, 0, 0, 1), -9);
        x.put(0, 39, 3);
        is("promise 12, 19 pairs", x.cuts(0, 0, 0, 19, 0), 0);
        is("promise 12, 20 pairs", x.cuts(0, 0, 0, 20, 0), 128 + 64 + 32);
        for (int p = 0; p < 20; p++) {
            x.put(0, 2 * p, p / 8);
            x.put(0, 2 * p + 1, p % 8 + 1);
        }
        is("promise 12, the ninth is IDLE", x.cuts(0, 0, 0, 20, 1), 8);
        is("promise 12, of the first eight none is", x.cuts(0, 0, 0, 8, 1), -9);
        for (int what : new int[] {-1, 2, MIN, MAX}) {
            is("promise 12, what " + what, x.cuts(0, 0, 0, 1, what), -2);
        }
    }

    private static RindTalk withRow(String text, int... cells) {
        RindTalk x = Due.dairyOf(text);
        Due.row(x, 0, cells);
        return x;
    }

    // Promise 12: 'OUTSIDE: depth (0 .. 8)'
    private static void cutsOfDepths() {
        int set = 0;
        for (int depth = 0; depth <= 8; depth++) {
            is("promise 12, depth " + depth, withRow(ALL_WORDS, 0, depth).cuts(0, 2, 0, 1, 0), set);
            set |= 128 >> depth;
        }
        for (int depth : new int[] {-1, 9, MIN, MAX, -9}) {
            is("promise 12, depth " + depth, withRow(ALL_WORDS, 0, depth).cuts(0, 2, 0, 1, 0), -2);
            is("promise 12, depth " + depth, withRow(ALL_WORDS, 0, depth).cuts(0, 2, 0, 1, 1), -2);
        }
        is("promise 12, as deep as it has layers", withRow(ALL_WORDS, 2, 4).cuts(0, 2, 0, 1, 0), 85);
        is("promise 12, one less", withRow(ALL_WORDS, 2, 3).cuts(0, 2, 0, 1, 0), 84);
        is("promise 12, deeper than it has layers", withRow(ALL_WORDS, 2, 5).cuts(0, 2, 0, 1, 0), 85);
        is("promise 12, deeper than it has layers", withRow(ALL_WORDS, 2, 8).cuts(0, 2, 0, 1, 0), 85);
        is("promise 12, of no layers", withRow("q1,c09;010", 0, 8).cuts(0, 2, 0, 1, 0), 0);
    }

    // Promise 12: 'pair by pair UNKNOWN: CHEESE'
    private static void cutsOfCheeses() {
        for (int k : new int[] {-1, 3, 4, MIN, MAX}) {
            is("promise 12, no such CHEESE", withRow(ALL_WORDS, k, 1).cuts(0, 2, 0, 1, 0), -1);
            is("promise 12, UNKNOWN ahead of OUTSIDE", withRow(ALL_WORDS, k, 9).cuts(0, 2, 0, 1, 1), -1);
        }
        is("promise 12, the last CHEESE", withRow(ALL_WORDS, 2, 1).cuts(0, 2, 0, 1, 0), 64);
    }

    // Promise 12: the first pair that is refused tells how, also behind the IDLE one
    private static void cutsPairByPair() {
        is("promise 12, OUTSIDE first", withRow(ALL_WORDS, 0, 9, 3, 0).cuts(0, 2, 0, 2, 0), -2);
        is("promise 12, UNKNOWN first", withRow(ALL_WORDS, 3, 0, 0, 9).cuts(0, 2, 0, 2, 0), -1);
        is("promise 12, the second", withRow(ALL_WORDS, 0, 8, 0, 9).cuts(0, 2, 0, 2, 0), -2);
        is("promise 12, the second is not taken", withRow(ALL_WORDS, 0, 8, 0, 9).cuts(0, 2, 0, 1, 0), 255);
        is("promise 12, behind the IDLE one", withRow(ALL_WORDS, 0, 0, 3, 0).cuts(0, 2, 0, 2, 1), -1);
        is("promise 12, behind the IDLE one", withRow(ALL_WORDS, 0, 0, 0, 9).cuts(0, 2, 0, 2, 1), -2);
    }

    // Promise 12: 'cells of a SHEET from i on (2 n)'; INDEX, also where none is taken
    private static void cutsOfCells() {
        RindTalk x = withRow(ALL_WORDS, 9, 0, 1, 1, 2, 9);
        is("promise 12, from 1 on", x.cuts(0, 2, 1, 2, 0), 128 + 64);
        is("promise 12, up to the last cell", x.cuts(0, 2, 2, 2, 0), -2);
        is("promise 12, one on", x.cuts(0, 2, 3, 2, 0), -13);
        is("promise 12, from 3 on", x.cuts(0, 2, 3, 1, 0), 128 + 64);
        is("promise 12, the last alone is no pair", x.cuts(0, 2, 5, 1, 0), -13);
        is("promise 12, three pairs of six cells", x.cuts(0, 2, 0, 3, 0), -1);
        is("promise 12, four pairs of six cells", x.cuts(0, 2, 0, 4, 0), -13);
        is("promise 12, none, from the end on", x.cuts(0, 2, 6, 0, 0), 0);
        is("promise 12, none, from behind the end on", x.cuts(0, 2, 7, 0, 0), -13);
        is("promise 12, none, from 0 on", x.cuts(0, 2, 0, 0, 0), 0);
        is("promise 12, none, from -1 on", x.cuts(0, 2, -1, 0, 0), -13);
        is("promise 12, from -1 on", x.cuts(0, 2, -1, 1, 0), -13);
        is("promise 12, i and 2 n wrap around", x.cuts(0, 2, MAX, 1, 0), -13);
        is("promise 12, i and 2 n wrap around", x.cuts(0, 2, MAX - 1, 20, 0), -13);
        is("promise 12, the least i", x.cuts(0, 2, MIN, 20, 0), -13);
        x.sheet(0, 2, 0);
        is("promise 12, a row of no cells, none", x.cuts(0, 2, 0, 0, 0), 0);
        is("promise 12, a row of no cells, one", x.cuts(0, 2, 0, 1, 0), -13);
    }

    private static void cutsOfLanes() {
        RindTalk x = Due.dairyOf(ALL_WORDS);
        for (int lane = 0; lane < 3; lane++) {
            x.sheet(lane, lane, 2);
            x.put(lane, 0, 2);
            x.put(lane, 1, 2);
            is("promise 12, of lane " + lane, x.cuts(lane, lane, 0, 1, 0), 64 + 16);
        }
        x.put(0, 0, 256);
        is("promise 12, a cell is cut to a byte", x.cuts(0, 0, 0, 1, 0), 128 + 64);
        x.put(1, 1, 65537);
        is("promise 12, a cell is cut to a short", x.cuts(1, 1, 0, 1, 0), 64);
        x.put(2, 0, 256);
        is("promise 12, an int is taken whole", x.cuts(2, 2, 0, 1, 0), -1);
    }

    // Promise 12: 'UNKNOWN: SHEET; OUTSIDE: lane, n, what; FAULTS CAST, NULL, INDEX; STATE ..'
    private static void cutsFaultsInTheirOrder() {
        RindTalk x = new RindTalk();
        x.sheet(1, 1, 4);
        for (int sheet : new int[] {-1, 4, MIN, MAX}) {
            is("promise 12, UNKNOWN ahead of OUTSIDE", x.cuts(sheet, 3, -1, 21, 2), -1);
        }
        for (int lane : new int[] {-1, 3, MIN, MAX}) {
            is("promise 12, OUTSIDE ahead of NULL", x.cuts(0, lane, -1, 1, 0), -2);
        }
        is("promise 12, OUTSIDE (n) ahead of NULL", x.cuts(0, 0, -1, 21, 0), -2);
        is("promise 12, OUTSIDE (what) ahead of NULL", x.cuts(0, 0, -1, 1, 2), -2);
        is("promise 12, OUTSIDE (n) ahead of CAST", x.cuts(1, 0, -1, -1, 0), -2);
        for (int lane = 0; lane < 3; lane++) {
            is("promise 12, nothing is no CAST", x.cuts(0, lane, -1, 1, 0), -11);
            is("promise 12, CAST ahead of INDEX", x.cuts(1, lane, -1, 1, 0), lane == 1 ? -13 : -12);
            is("promise 33, fault", x.fault(), lane == 1 ? 3 : 2);
            is("promise 12, CAST ahead of STATE", x.cuts(1, lane, 0, 1, 0), lane == 1 ? -3 : -12);
        }
        is("promise 12, INDEX ahead of STATE", x.cuts(1, 1, 3, 1, 0), -13);
        is("promise 12, STATE ahead of a pair's", x.cuts(1, 1, 0, 2, 0), -3);
        is("promise 33, refused", x.fault(), 0);
    }

    // Terms 2: 'IDLE: the first pair by which no WORD more is HAD'
    private static void cutsThatAreIdle() {
        is("promise 12, depth 0 has nothing", withRow(ALL_WORDS, 0, 0).cuts(0, 2, 0, 1, 1), 0);
        is("promise 12, the first pair that has some", withRow(ALL_WORDS, 0, 1).cuts(0, 2, 0, 1, 1), -9);
        is("promise 12, the same again", withRow(ALL_WORDS, 0, 1, 0, 1).cuts(0, 2, 0, 2, 1), 1);
        is("promise 12, one deeper", withRow(ALL_WORDS, 0, 1, 0, 2).cuts(0, 2, 0, 2, 1), -9);
        is("promise 12, less deep", withRow(ALL_WORDS, 0, 2, 0, 1).cuts(0, 2, 0, 2, 1), 1);
        is("promise 12, the same words of another", withRow(ALL_WORDS, 0, 3, 1, 3).cuts(0, 2, 0, 2, 1), 1);
        is("promise 12, one word more of another", withRow(ALL_WORDS, 0, 3, 1, 4).cuts(0, 2, 0, 2, 1), -9);
        is("promise 12, of several the first", withRow(ALL_WORDS, 0, 1, 0, 2, 0, 2, 0, 0).cuts(0, 2, 0, 4, 1), 2);
        is("promise 12, words of all", withRow(ALL_WORDS, 0, 1, 2, 2, 1, 0).cuts(0, 2, 0, 3, 0), 128 + 64 + 16);
        RindTalk x = Due.dairyOf("q1,c01;010;010;011");
        Due.row(x, 0, 0, 2, 0, 3);
        is("promise 12, a layer more, no word more", x.cuts(0, 2, 0, 2, 1), 1);
    }

    private static void cutsWithoutADairy() {
        RindTalk x = Standing.sheetsOnly();
        is("promise 12, STATE", x.cuts(2, 2, 0, 3, 0), -3);
        is("promise 12, STATE, of no pairs", x.cuts(2, 2, 0, 0, 1), -3);
        is("promise 12, STATE, of no pairs at the end", x.cuts(2, 2, 6, 0, 1), -3);
        Due.take(x, "q1,c00,c00,c00;010");
        is("promise 12, with a dairy", x.cuts(2, 2, 0, 3, 0), 1);
    }

    // Promise 13: 'two sets of WORDS (0 .. 255)'
    private static void sparedSets() {
        RindTalk x = Due.dairyOf(ALL_WORDS);
        for (int set : new int[] {-1, 256, MIN, MAX, -9}) {
            is("promise 13, the first set " + set, x.spare(set, 0, -1), -2);
            is("promise 13, the other set " + set, x.spare(0, set, -1), -2);
            is("promise 13, both " + set, x.spare(set, set, 0), -2);
            is("promise 13, OUTSIDE also of no such CHEESE", x.spare(set, 0, 4), -2);
            is("promise 13, UNKNOWN ahead of OUTSIDE", x.spare(set, set, -2), -1);
        }
        is("promise 13, no word", x.spare(0, 0, -1), 0);
        is("promise 13, no word, none of all", x.spare(0, 255, -1), 0);
        is("promise 13, all words", x.spare(255, 0, -1), 8);
        is("promise 13, all words, none of all", x.spare(255, 255, -1), -9);
        is("promise 13, all words but one, and not that", x.spare(254, 1, -1), 7);
        is("promise 13, word 0 at the heart, by mites", x.spare(1, 0, -1), 4);
        is("promise 13, word 7 by the rind", x.spare(128, 0, -1), 1);
    }

    // Promise 13: 'LAYERS together (k -1), how many of CHEESE k; NONE: .. there is no such CHEESE. UNKNOWN: k below -1'
    private static void sparedCheeses() {
        RindTalk x = Due.dairyOf(ALL_WORDS);
        int[] row = {0, 0, 4};
        for (int k = 0; k < 3; k++) {
            is("promise 13, of CHEESE " + k, x.spare(1, 0, k), row[k]);
        }
        is("promise 13, one behind the last CHEESE", x.spare(1, 0, 3), -9);
        is("promise 13, the most", x.spare(1, 0, MAX), -9);
        is("promise 13, k -2", x.spare(1, 0, -2), -1);
        is("promise 13, NONE is below -1", x.spare(1, 0, -9), -1);
        is("promise 13, the least", x.spare(1, 0, MIN), -1);
        RindTalk none = new RindTalk();
        is("promise 13, STATE", none.spare(0, 0, -1), -3);
        is("promise 13, STATE ahead of no such CHEESE", none.spare(0, 0, 0), -3);
        is("promise 13, OUTSIDE ahead of STATE", none.spare(256, 0, 0), -2);
        is("promise 13, UNKNOWN ahead of STATE", none.spare(0, 0, -2), -1);
    }

    private static void spareIs(String name, RindTalk x, int words, int others, int... row) {
        int sum = 0;
        for (int k = 0; k < row.length; k++) {
            is("promise 13, " + name + ", of " + k, x.spare(words, others, k), row[k]);
            sum += row[k];
        }
        is("promise 13, " + name + ", together", x.spare(words, others, -1), row[0] == -9 ? -9 : sum);
    }

    // Terms 3: 'how many LAYERS deep to cut each CHEESE (0 .. how many it has)'
    private static void sparedDepths() {
        RindTalk one = Due.dairyOf("q1,c01;010;011;012;013;014;015;016;017");
        for (int word = 0; word < 8; word++) {
            spareIs("down to word " + word, one, 1 << word, 0, 8 - word);
            spareIs("down to word " + word + ", not the next", one, 1 << word, (1 << word) - 1, 8 - word);
            if (word < 7) {
                spareIs("word " + word + " and not the one ahead of it", one, 1 << word, 2 << word, -9);
            }
        }
        RindTalk four = Due.dairyOf("q5,c09,c19,c29,c39;090;191;292;393;094;195;296;397");
        spareIs("two layers of each", four, 255, 0, 2, 2, 2, 2);
        spareIs("one layer of each", four, 240, 15, 1, 1, 1, 1);
        spareIs("one word alone", four, 2, 0, 0, 2, 0, 0);
        spareIs("a word that bars another", four, 2, 32, -9, -9, -9, -9);
        spareIs("a word of one that hears nothing", Due.dairyOf("q1,c09;011"), 2, 0, -9);
        spareIs("no word of one that hears nothing", Due.dairyOf("q1,c09;011"), 0, 2, 0);
    }

    // Terms 3: 'as few LAYERS as can be are cut together: of several the first as a row'
    private static void sparedRows() {
        RindTalk x = Due.dairyOf("q1,c01,c01,c01;010;011");
        spareIs("of [0 0 1] [0 1 0] [1 0 0] the first", x, 2, 0, 0, 0, 1);
        spareIs("of [0 0 2] [0 2 0] .. the first", x, 3, 0, 0, 0, 2);
        // Cheese 0: words 1, 0 from the rind on; cheese 1: words 0, 1.
        RindTalk y = Due.dairyOf("q5,c09,c49;090;491;091;490");
        spareIs("[1 1], [0 2] and [2 0] are alike: the first", y, 3, 0, 0, 2);
        spareIs("fewer ahead of the first", y, 2, 0, 1, 0);
        spareIs("the other one", y, 1, 0, 0, 1);
        // Only the second one has word 2, behind two others; the third one by its rind.
        RindTalk z = Due.dairyOf("q5,c09,c29,c49;292;290;291;492");
        spareIs("fewer, though behind in the row", z, 4, 0, 0, 0, 1);
        z.wall(2, 0);
        spareIs("none else has it", z, 4, 0, 0, 3, 0);
        spareIs("barred ahead of it", z, 4, 1, -9, -9, -9);
        // From the rind on: words 0, 1 of the one, 0, 2 of the other; word 0 is had by both.
        RindTalk both = Due.dairyOf("q5,c09,c49;091;492;090;490");
        spareIs("a word had twice is had", both, 7, 0, 2, 2);
        spareIs("a word had twice need not be wanted", both, 6, 0, 2, 2);
        spareIs("a word had twice is barred", both, 6, 1, -9, -9);
    }

    // Terms 3: 'NONE: it can't be'
    private static void sparedNone() {
        RindTalk x = Due.dairyOf(ALL_WORDS);
        spareIs("the same word in both sets", x, 128, 128, -9, -9, -9);
        spareIs("a word behind a barred one", x, 8, 64 + 128, -9, -9, -9);
        spareIs("by mites: not behind the barred one", x, 64, 128, 0, 0, 1);
        spareIs("by mites: two deep", x, 16, 32 + 8, 0, 0, 2);
        RindTalk y = Due.dairyOf("q1,c01;010");
        spareIs("a word that is not said", y, 2, 0, -9);
        spareIs("one said, one not", y, 3, 0, -9);
        is("promise 13, it can't be, and no such CHEESE", y.spare(2, 0, 1), -9);
        RindTalk fewer = Due.dairyOf("q2,c01,c11;010;111");
        spareIs("of two", fewer, 3, 0, 1, 1);
        Due.take(fewer, "q2,c01;010;111");
        spareIs("a word that only one of an earlier TEXT has", fewer, 3, 0, -9);
    }

    // Promise 14: 'how many WORDS are HEARD then (k -1), the CELLAR of CHEESE k; NONE .. UNKNOWN: k below -1; STATE'
    private static void shelvedCheeses() {
        RindTalk none = new RindTalk();
        is("promise 14, STATE", none.shelve(-1), -3);
        is("promise 14, STATE ahead of no such CHEESE", none.shelve(0), -3);
        is("promise 14, UNKNOWN ahead of STATE", none.shelve(-2), -1);
        RindTalk x = Due.dairyOf("q5,c09,c09;490;391;092");
        is("promise 14, WORDS", x.shelve(-1), 2);
        is("promise 14, the first CHEESE", x.shelve(0), 0);
        is("promise 14, the last CHEESE", x.shelve(1), 3);
        is("promise 14, one behind it", x.shelve(2), -9);
        is("promise 14, the most", x.shelve(MAX), -9);
        is("promise 14, k -2", x.shelve(-2), -1);
        is("promise 14, NONE is below -1", x.shelve(-9), -1);
        is("promise 14, the least", x.shelve(MIN), -1);
    }

    private static void shelveIs(String name, RindTalk x, int most, int... row) {
        is("promise 14, " + name + ", WORDS", x.shelve(-1), most);
        for (int k = 0; k < row.length; k++) {
            is("promise 14, " + name + ", of " + k, x.shelve(k), row[k]);
        }
    }

    // Terms 3: 'by which the most WORDS are HEARD by one or more: of several the first as a row'
    private static void shelvedRows() {
        shelveIs("one cellar", Due.dairyOf("q1,c01,c01;010"), 1, 0, 0);
        shelveIs("by as much as it is THICK, the wax not", Due.dairyOf("q5,c09,w49;080;490"), 1, 4, 0);
        shelveIs("nothing at all", Due.dairyOf("q5,c49,w49;080;481"), 0, 0, 0);
        shelveIs("the last cellar alone", Due.dairyOf("q5,c01;410"), 1, 4);
        shelveIs("the first and the last are alike", Due.dairyOf("q5,c21;411;010"), 1, 0);
        shelveIs("a word twice is one word", Due.dairyOf("q5,c01;411;411;010"), 1, 0);
        shelveIs("all eight", Due.dairyOf("q1,c01;010;011;012;013;014;015;016;017"), 8, 0);
        shelveIs("two that hear the same are one", Due.dairyOf("q2,c01,c01;010;111"), 2, 0, 1);
        shelveIs("the wax hears less", Due.dairyOf("q2,w01,c01;020;111"), 2, 0, 1);
        shelveIs("the wax hears less", Due.dairyOf("q2,w01,c01;010;121"), 2, 1, 0);
        shelveIs("four in five cellars", Due.dairyOf("q5,c01,c01,c01,c01;010;111;212;313;414"), 4, 0, 1, 2, 3);
        shelveIs("four, the last cellars", Due.dairyOf("q5,c01,c01,c01,c01;111;212;313;414"), 4, 1, 2, 3, 4);
        shelveIs("by mites the second is left out", Due.dairyOf("q2,m01;010;011;112;113"), 1, 0);
        shelveIs("by mites the third is heard", Due.dairyOf("q2,m01;112;113;114;010;011"), 2, 1);
    }

    private static void shelvedTurned() {
        RindTalk x = Due.dairyOf("q3,c01;010;111;112;213;214;215");
        shelveIs("never turned", x, 3, 2);
        x.wall(0, 5);
        shelveIs("turned from day 5 on", x, 2, 1);
        x.wall(0, 2);
        shelveIs("turned from day 2 on", x, 1, 0);
        x.wall(0, 0);
        shelveIs("turned from day 0 on", x, 0, 0);
        is("promise 14, it changes nothing", x.where(0, 0), 0);
    }

    // Terms 3: 'in place of where it lies at first and of all MOVES'
    private static void shelvedWithoutMoves() {
        RindTalk x = Due.dairyOf("q3,c21;010;111");
        x.move(0, 1, 1);
        x.move(0, 0, 0);
        is("promise 9, by moves both", x.heard(0), 3);
        shelveIs("without moves one", x, 1, 0);
        is("promise 34, the moves stay", x.many(3), 2);
        is("promise 9, the moves stay", x.heard(0), 3);
    }

    // Promise 15
    private static void commonOfAll() {
        is("promise 15, STATE", new RindTalk().common(), -3);
        is("promise 15, all heard all", Due.dairyOf("q1,c01,c01,c01,c01;010;017").common(), 129);
        is("promise 15, the last one did not hear", Due.dairyOf("q1,c01,c01,c01,c02;010;017").common(), 0);
        is("promise 15, the first one did not hear", Due.dairyOf("q1,c02,c01,c01,c01;010;027").common(), 128);
        is("promise 15, one alone", Due.dairyOf("q1,c01;010;011;012;013;014;015;016;017").common(), 255);
        is("promise 15, one that heard nothing", Due.dairyOf("q1,c09;010").common(), 0);
        is("promise 15, a WORD by different TALKS", Due.dairyOf("q5,c09,c49;095;495").common(), 32);
        RindTalk x = Due.dairyOf("q1,c01,c01;010;017");
        x.wall(1, 1);
        is("promise 15, one turned from day 1 on", x.common(), 1);
    }

    // Promise 16
    private static void aloneOfOne() {
        RindTalk x = Due.dairyOf("q5,c09,c19,c29,c39;090;191;292;393;097;197");
        for (int k = 0; k < 4; k++) {
            is("promise 16, of " + k, x.alone(k), 1 << k);
        }
        for (int k : new int[] {-1, 4, MIN, MAX}) {
            is("promise 16, no such CHEESE", x.alone(k), -1);
        }
        x.wall(1, 5);
        is("promise 16, the other one is turned", x.alone(0), 1 + 128);
        is("promise 16, what it heard till then", x.alone(1), 2);
        is("promise 16, one alone in the dairy", Due.dairyOf("q1,c01;010;017").alone(0), 129);
        is("promise 16, one that heard nothing", Due.dairyOf("q1,c09,c01;010").alone(0), 0);
        is("promise 16, twice heard by one", Due.dairyOf("q1,c09,c01;010;010").alone(1), 1);
        is("promise 16, no dairy", new RindTalk().alone(0), -1);
    }
}
