/** Terms 4, promises 17 to 23: the edges of readings, of what follows from them, and of odds. */
public final class ReadingEdgesTest {
    private static final int MIN = Integer.MIN_VALUE, MAX = Integer.MAX_VALUE;
    private static final long LOST = Long.MIN_VALUE;
    private static final int ALL_LOUDS = 1022, ALL_WORDS = 255;
    private static final Due due = new Due();

    public static void main(String[] args) {
        eightReadings();
        layersOfReadings();
        wordsOfReadings();
        cheesesOfReadings();
        readingsAreTakenBack();
        readingsOfNoDairy();
        setsWithoutReadings();
        noSuchLayer();
        louds();
        wordsOfTalks();
        kindsOfCheeses();
        cellarsOfCheeses();
        setsThatAreEmpty();
        setsOfNoSuch();
        inPlaceOfWhatItIsAlone();
        oddsRefused();
        oddsInLeastTerms();
        oddsOfWhispers();
        oddsOfMites();
        oddsOfMovedAndTurned();
        due.end();
    }

    private static void is(String name, long got, long want) {
        due.is(name, got, want);
    }

    // Terms 4, promise 17: 'READINGS, 8 at most, numbered by how many there are'
    private static void eightReadings() {
        RindTalk x = Due.dairyOf("q2,c01,c11;011");
        for (int r = 0; r < 8; r++) {
            is("promise 34, READINGS", x.many(4), r);
            is("promise 17, number", x.reading(r % 2, 0, 1), r);
        }
        is("promise 17, a ninth", x.reading(0, 0, 1), -4);
        is("promise 17, a ninth", x.reading(1, 7, -9), -4);
        is("promise 17, UNKNOWN (CHEESE) ahead of FULL", x.reading(2, 0, 1), -1);
        is("promise 17, UNKNOWN (WORD) ahead of FULL", x.reading(0, 0, 8), -1);
        is("promise 17, OUTSIDE ahead of FULL", x.reading(0, 8, 1), -2);
        is("promise 34, still eight", x.many(4), 8);
        is("promise 34, MOVES are others", x.many(3), 0);
        is("promise 18, one", x.back(1), 7);
        is("promise 17, the eighth again", x.reading(0, 0, 1), 7);
        is("promise 17, and then a ninth", x.reading(0, 0, 1), -4);
    }

    // Promise 17: 'OUTSIDE: layer (0 .. 7)'
    private static void layersOfReadings() {
        RindTalk x = Due.dairyOf("q1,c01;011");
        for (int layer = 0; layer < 8; layer++) {
            is("promise 17, layer " + layer, x.reading(0, layer, 0), layer);
        }
        x.back(8);
        for (int layer : new int[] {-1, 8, MIN, MAX, -9}) {
            is("promise 17, layer " + layer, x.reading(0, layer, 0), -2);
            is("promise 17, layer " + layer + ", NONE", x.reading(0, layer, -9), -2);
        }
        is("promise 34, none has come", x.many(4), 0);
    }

    // Promise 17: 'UNKNOWN: .. WORD', '(word NONE: there is no such LAYER)'
    private static void wordsOfReadings() {
        RindTalk x = Due.dairyOf("q1,c01;011");
        for (int word : new int[] {-1, 8, -8, -10, MIN, MAX}) {
            is("promise 17, word " + word, x.reading(0, 0, word), -1);
            is("promise 17, word " + word + ", UNKNOWN ahead of OUTSIDE", x.reading(0, 8, word), -1);
        }
        is("promise 34, none has come", x.many(4), 0);
        for (int word = 0; word < 8; word++) {
            is("promise 17, word " + word, x.reading(0, 0, word), 0);
            is("promise 20, word " + word, x.words(0), 1 << word);
            x.back(1);
        }
        is("promise 17, NONE", x.reading(0, 0, -9), 0);
    }

    // Promise 17: 'UNKNOWN: CHEESE'
    private static void cheesesOfReadings() {
        RindTalk x = Due.dairyOf("q1,c01,c01;011");
        is("promise 17, the last CHEESE", x.reading(1, 0, 1), 0);
        for (int k : new int[] {-1, 2, 3, MIN, MAX}) {
            is("promise 17, no such CHEESE", x.reading(k, 0, 1), -1);
            is("promise 17, UNKNOWN ahead of OUTSIDE", x.reading(k, 8, 1), -1);
        }
    }

    // Promise 18: 'The last k READINGS (0 .. as many as there are) are taken back: how many are left. OUTSIDE.'
    private static void readingsAreTakenBack() {
        for (int many = 0; many <= 8; many++) {
            for (int k = 0; k <= many; k++) {
                // Layers from the rind on: words 0 .. 7, each read in turn.
                RindTalk x = Due.dairyOf("q1,c01;017;016;015;014;013;012;011;010");
                for (int r = 0; r < many; r++) {
                    x.reading(0, r, r);
                }
                is("promise 18, below 0", x.back(-1), -2);
                is("promise 18, one more than there are", x.back(many + 1), -2);
                is("promise 18, the least", x.back(MIN), -2);
                is("promise 18, the most", x.back(MAX), -2);
                is("promise 34, none of these", x.many(4), many);
                int left = many - k;
                is("promise 18, " + k + " of " + many, x.back(k), left);
                is("promise 34, " + k + " of " + many, x.many(4), left);
                is("promise 18, more than are left", x.back(left + 1), -2);
                for (int t = 0; t < 8; t++) {
                    int layer = 7 - t;
                    is("promise 20, " + k + " of " + many, x.words(t), layer < left ? 1 << layer : ALL_WORDS);
                }
            }
        }
    }

    private static void readingsOfNoDairy() {
        RindTalk x = new RindTalk();
        is("promise 17, no dairy", x.reading(0, 0, 0), -1);
        is("promise 17, no dairy, NONE", x.reading(0, 0, -9), -1);
        is("promise 18, no dairy, none", x.back(0), 0);
        is("promise 18, no dairy, one", x.back(1), -2);
        is("promise 18, no dairy, below 0", x.back(-1), -2);
        is("promise 19, no dairy", x.louds(0), -1);
        is("promise 20, no dairy", x.words(0), -1);
        is("promise 21, no dairy", x.kinds(0), -1);
        is("promise 22, no dairy", x.lay(0), -1);
        is("promise 23, no dairy", x.odds(0, 0, 0), LOST);
    }

    // Terms 4: 'LOUDS .. 1 .. 9 ..; WORDS .. 0 .. 7 ..; KINDS .. 0 .. 2 ..; LAY: CELLARS ..': all of them
    private static void setsWithoutReadings() {
        for (int cellars = 1; cellars <= 5; cellars++) {
            RindTalk x = Due.dairyOf("q" + cellars + ",c09,w09,m09;011;091");
            for (int t = 0; t < 2; t++) {
                is("promise 19, all", x.louds(t), ALL_LOUDS);
                is("promise 20, all", x.words(t), ALL_WORDS);
            }
            for (int k = 0; k < 3; k++) {
                is("promise 21, all", x.kinds(k), 7);
                is("promise 22, all of " + cellars, x.lay(k), (1 << cellars) - 1);
            }
        }
    }

    // Terms 4: 'NONE: there is no such LAYER': the first that is not there, the last that is
    private static void noSuchLayer() {
        for (int talks = 1; talks <= 8; talks++) {
            RindTalk x = Due.dairyOf("q1,c01" + ";011".repeat(talks));
            for (int layer = 0; layer < 8; layer++) {
                x.reading(0, layer, -9);
                is("promise 20, NONE in layer " + layer + " of " + talks, x.words(0), layer < talks ? 0 : ALL_WORDS);
                x.back(1);
                x.reading(0, layer, 1);
                boolean isFirst = layer == talks - 1;
                is("promise 20, word 1 in layer " + layer + " of " + talks, x.words(0), layer >= talks ? 0 : isFirst ? 2 : ALL_WORDS);
                x.back(1);
            }
        }
    }

    // Promise 19: one step this side of what is heard, and that side
    private static void louds() {
        for (int thick = 0; thick <= 9; thick++) {
            for (char letter : "cwm".toCharArray()) {
                int least = letter == 'w' ? thick + 1 : Math.max(thick, 1);
                RindTalk x = Due.dairyOf("q1," + letter + "0" + thick + ";091");
                x.reading(0, 0, 1);
                is("promise 19, heard, " + letter + thick, x.louds(0), ALL_LOUDS & -(1 << least));
                x.back(1);
                x.reading(0, 0, -9);
                is("promise 19, not heard, " + letter + thick, x.louds(0), ALL_LOUDS & ((1 << least) - 1));
                is("promise 4, as LOUD as told", x.ofTalk(0, 1), 9);
            }
        }
        RindTalk x = Due.dairyOf("q5,c41;091;011");
        x.reading(0, 0, 1);
        is("promise 19, four cellars between: 9 alone", x.louds(0), 512);
        is("promise 19, the other one", x.louds(1), ALL_LOUDS);
    }

    // Promise 20
    private static void wordsOfTalks() {
        RindTalk x = Due.dairyOf("q1,c02;021;012;023;034");
        x.reading(0, 0, 4);
        x.reading(0, 1, 0);
        is("promise 20, a WORD that it was not", x.words(2), 1);
        is("promise 20, the one by the rind can't mend it", x.words(3), 0);
        is("promise 20, one that was not heard can't mend it", x.words(1), 0);
        x.reading(0, 2, 1);
        is("promise 20, with one more that is so", x.words(2), 1);
        x.reading(0, 1, 7);
        is("promise 20, two that can't be both", x.words(2), 0);
        x.back(3);
        is("promise 20, the first one alone", x.words(3), 16);
        is("promise 20, the others are free", x.words(0), ALL_WORDS);
        is("promise 4, as told", x.ofTalk(2, 2), 3);
    }

    // Promise 21: each kind alone, by one talk that comes by as much as it is THICK, and two by 1 more
    private static void kindsOfCheeses() {
        RindTalk x = Due.dairyOf("q1,c03;031;042;043");
        x.reading(0, 2, 1);
        is("promise 21, by as much as it is THICK: a CHEESE", x.kinds(0), 1);
        x.back(1);
        x.reading(0, 1, 1);
        is("promise 21, the second left out: MITED", x.kinds(0), 4);
        x.back(1);
        x.reading(0, 1, 2);
        x.reading(0, 2, -9);
        is("promise 21, both louder ones: WAXED", x.kinds(0), 2);
        x.back(1);
        is("promise 21, CHEESE and WAXED", x.kinds(0), 3);
        x.back(1);
        is("promise 21, any", x.kinds(0), 7);
        x.reading(0, 0, 3);
        is("promise 21, any by the rind", x.kinds(0), 7);
        x.reading(0, 0, 2);
        is("promise 21, none", x.kinds(0), 0);
        is("promise 3, as told", x.ofCheese(0, 0), 0);
    }

    // Promise 22: each cellar alone; the first and the last one
    private static void cellarsOfCheeses() {
        RindTalk x = Due.dairyOf("q5,c21;010;111;212;313;414");
        for (int cellar = 0; cellar < 5; cellar++) {
            x.reading(0, 0, cellar);
            is("promise 22, cellar " + cellar, x.lay(0), 1 << cellar);
            x.back(1);
        }
        x.reading(0, 1, -9);
        is("promise 22, all", x.lay(0), 31);
        x.move(0, 0, 3);
        is("promise 22, moved on day 0: wherever", x.lay(0), 31);
        x.reading(0, 0, 2);
        is("promise 22, moved on day 0: nowhere", x.lay(0), 0);
        x.undo(1);
        x.move(0, 3, 4);
        is("promise 22, moved on day 3", x.lay(0), 0);
        x.back(1);
        x.reading(0, 0, 4);
        // The talk of day 4 is heard wherever it lay; from day 3 on nothing else.
        is("promise 22, moved on day 3, alone heard there", x.lay(0), 24);
        is("promise 3, as told", x.ofCheese(0, 1), 2);
        is("promise 8, as told", x.where(0, 0), 2);
    }

    private static void setsThatAreEmpty() {
        RindTalk x = Due.dairyOf("q2,c01,m11;011;112");
        x.reading(0, 0, 5);
        x.reading(0, 0, 6);
        for (int n = 0; n < 2; n++) {
            is("promise 19, none", x.louds(n), 0);
            is("promise 20, none", x.words(n), 0);
            is("promise 21, none", x.kinds(n), 0);
            is("promise 22, none", x.lay(n), 0);
        }
        is("promise 9, what is told is heard all the same", x.heard(0), 1);
    }

    private static void setsOfNoSuch() {
        RindTalk x = Due.dairyOf("q2,c01,c11,c11;011;112");
        for (int n : new int[] {-1, MIN, MAX, -9}) {
            is("promise 19, no such TALK", x.louds(n), -1);
            is("promise 20, no such TALK", x.words(n), -1);
            is("promise 21, no such CHEESE", x.kinds(n), -1);
            is("promise 22, no such CHEESE", x.lay(n), -1);
        }
        is("promise 19, the last TALK", x.louds(1), ALL_LOUDS);
        is("promise 19, one behind it", x.louds(2), -1);
        is("promise 20, the last TALK", x.words(1), ALL_WORDS);
        is("promise 20, one behind it", x.words(2), -1);
        is("promise 21, the last CHEESE", x.kinds(2), 7);
        is("promise 21, one behind it", x.kinds(3), -1);
        is("promise 22, the last CHEESE", x.lay(2), 3);
        is("promise 22, one behind it", x.lay(3), -1);
    }

    // Terms 4: 'in place of what it is alone': two things that would have to change together
    private static void inPlaceOfWhatItIsAlone() {
        RindTalk x = Due.dairyOf("q1,c05;011;012");
        x.reading(0, 0, 2);
        x.reading(0, 1, 1);
        is("promise 19, both are too whispered", x.louds(0), 0);
        is("promise 19, both are too whispered", x.louds(1), 0);
        x.back(1);
        is("promise 19, one of them", x.louds(1), ALL_LOUDS & -32);
        is("promise 19, the other one can't mend it", x.louds(0), 0);
    }

    // Promise 23: 'LOST: UNKNOWN: CHEESE, WORD; OUTSIDE: which.'
    private static void oddsRefused() {
        RindTalk x = Due.dairyOf("q1,c01,c01;011;097");
        for (int k : new int[] {-1, 2, MIN, MAX}) {
            is("promise 23, no such CHEESE", x.odds(k, 1, 0), LOST);
        }
        for (int word : new int[] {-1, 8, -9, MIN, MAX}) {
            is("promise 23, no such WORD", x.odds(0, word, 0), LOST);
        }
        for (int which : new int[] {-1, 2, MIN, MAX}) {
            is("promise 23, which", x.odds(0, 1, which), LOST);
        }
        is("promise 23, the last CHEESE, the last WORD", x.odds(1, 7, 0), 1);
        is("promise 23, the first WORD", x.odds(0, 0, 0), 0);
        is("promise 23, it names no FAULTS", x.fault(), 0);
    }

    private static void share(String name, RindTalk x, int word, long upper, long lower) {
        is("promise 23, " + name + ", upper", x.odds(0, word, 0), upper);
        is("promise 23, " + name + ", lower", x.odds(0, word, 1), lower);
    }

    // Terms: 'Shares are told as upper and lower number (above 0) in least terms'
    private static void oddsInLeastTerms() {
        for (int talks = 1; talks <= 8; talks++) {
            // Each of them is heard if it is not whispered: all but one way.
            RindTalk x = Due.dairyOf("q1,c05" + ";097".repeat(talks));
            share("one of " + talks, x, 7, (1 << talks) - 1, 1 << talks);
            share("not said, of " + talks, x, 0, 0, 1);
            share("always, of " + talks, Due.dairyOf("q1,c01" + ";097".repeat(talks)), 7, 1, 1);
            share("never, of " + talks, Due.dairyOf("q1,w09" + ";097".repeat(talks)), 7, 0, 1);
            // One talk of word 0, the others of word 7: a half, whatever the others are.
            x = Due.dairyOf("q1,c05" + ";097".repeat(talks - 1) + ";090");
            share("the last of " + talks, x, 0, 1, 2);
        }
        RindTalk x = Due.dairyOf("q1,c05;090;091;091;092;092;092;093;093");
        share("two talks", x, 1, 3, 4);
        share("three talks", x, 2, 7, 8);
        share("two talks", x, 3, 3, 4);
    }

    // Terms 4: 'whispered (LOUD 1), or is as LOUD as told, all alike': one that is whispered as told, too
    private static void oddsOfWhispers() {
        share("told by 1, heard", Due.dairyOf("q1,c01;010"), 0, 1, 1);
        share("told by 1, not heard", Due.dairyOf("q1,c02;010"), 0, 0, 1);
        share("told by 2, of a CHEESE as THICK", Due.dairyOf("q1,c02;020"), 0, 1, 2);
        share("told by 2, of one less THICK", Due.dairyOf("q1,c01;020"), 0, 1, 1);
        share("a whisper, of wax, 0 THICK", Due.dairyOf("q1,w00;020"), 0, 1, 1);
        share("a whisper, of wax, 1 THICK", Due.dairyOf("q1,w01;020"), 0, 1, 2);
        share("a whisper of a CELLAR away", Due.dairyOf("q2,c00;130"), 0, 1, 2);
        share("not even as LOUD as told", Due.dairyOf("q2,c00;120"), 0, 0, 1);
        RindTalk x = Due.dairyOf("q1,c02;010;020");
        share("one whispered as told, one not", x, 0, 1, 2);
        is("promise 4, as LOUD as told", x.ofTalk(1, 1), 2);
    }

    private static void oddsOfMites() {
        RindTalk x = Due.dairyOf("q1,m05;090;091;092");
        share("the first", x, 0, 1, 2);
        share("the second, if the first is whispered", x, 1, 1, 4);
        // Heard if both ahead of it are, or none: 2 of 4, and itself.
        share("the third", x, 2, 1, 4);
        share("whispers are heard: the first", Due.dairyOf("q1,m01;090;091"), 0, 1, 1);
        share("whispers are heard: the second is left out", Due.dairyOf("q1,m01;090;091"), 1, 0, 1);
        // Both: 1 (the second left out); one: 1; none: 0.
        share("the same word twice", Due.dairyOf("q1,m05;090;090"), 0, 3, 4);
    }

    private static void oddsOfMovedAndTurned() {
        RindTalk x = Due.dairyOf("q5,c05;090;490");
        share("one cellar", x, 0, 1, 2);
        x.move(0, 1, 4);
        share("moved on day 1", x, 0, 3, 4);
        x.wall(0, 1);
        share("turned from day 1 on", x, 0, 1, 2);
        x.wall(0, 0);
        share("turned from day 0 on", x, 0, 0, 1);
        x.wall(0, 2);
        share("turned behind the last talk", x, 0, 3, 4);
        x.reading(0, 0, -9);
        share("readings are not asked", x, 0, 3, 4);
    }
}
