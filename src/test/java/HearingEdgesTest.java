/** Terms 1 and 2, promises 3 to 11: the edges of hearing, of layers, of moves and of walls. */
public final class HearingEdgesTest {
    private static final int MIN = Integer.MIN_VALUE, MAX = Integer.MAX_VALUE;
    private static final Due due = new Due();

    public static void main(String[] args) {
        theLeastThatIsHeard();
        whispersThatComeByNothing();
        mitesLeaveOutEachOther();
        mitesCountOnlyWhatIsHeard();
        turnedFromADayOn();
        turnedCountsForNoMites();
        movedFromADayOn();
        theLatestDayTheLatestTold();
        eightMoves();
        movesAreTakenBack();
        movesOfNoDairy();
        layersFromTheRindOn();
        noLayers();
        eightLayers();
        depthOfAWord();
        whatOfCheeses();
        whatOfTalks();
        due.end();
    }

    private static void is(String name, long got, long want) {
        due.is(name, got, want);
    }

    /** How loud it must be at least: as thick as it is and 1 at least; the wax wants 1 more; 2 for each cellar between. */
    private static int least(char letter, int thick, int apart) {
        int comes = letter == 'w' ? thick + 1 : thick == 0 ? 1 : thick;
        return comes + 2 * apart;
    }

    // Promise 9: each kind, thickness and distance; the least that is heard, one less, one more
    private static void theLeastThatIsHeard() {
        for (char letter : "cwm".toCharArray()) {
            for (int thick = 0; thick <= 9; thick++) {
                for (int lies = 0; lies < 5; lies++) {
                    for (int said = 0; said < 5; said++) {
                        int least = least(letter, thick, Math.abs(lies - said));
                        for (int loud = Math.max(1, least - 1); loud <= Math.min(9, least + 1); loud++) {
                            String text = "q5," + letter + lies + thick + ";" + said + loud + "0";
                            is("promise 9, " + text, Due.dairyOf(text).heard(0), loud >= least ? 1 : 0);
                        }
                        if (least > 10) {
                            String text = "q5," + letter + lies + thick + ";" + said + "90";
                            is("promise 9, never, " + text, Due.dairyOf(text).heard(0), 0);
                        }
                    }
                }
            }
        }
    }

    // Promise 9: 'and by 1 at least', where THICK is 0: what comes by 1, by 0, by less than 0
    private static void whispersThatComeByNothing() {
        for (char letter : "cwm".toCharArray()) {
            is("promise 9, by 1", Due.dairyOf("q5," + letter + "00;130").heard(0), 1);
            is("promise 9, by 0", Due.dairyOf("q5," + letter + "00;120").heard(0), 0);
            is("promise 9, by -1", Due.dairyOf("q5," + letter + "00;110").heard(0), 0);
            is("promise 9, by 1, four apart", Due.dairyOf("q5," + letter + "00;490").heard(0), 1);
            is("promise 9, by 0, four apart", Due.dairyOf("q5," + letter + "00;480").heard(0), 0);
            is("promise 9, by -7, four apart", Due.dairyOf("q5," + letter + "40;010").heard(0), 0);
        }
    }

    // Promise 9: 'only each other one, the first one, too (the first, the third ..)', one to eight talks
    private static void mitesLeaveOutEachOther() {
        int[] sets = {1, 1, 5, 5, 21, 21, 85, 85};
        for (int talks = 1; talks <= 8; talks++) {
            RindTalk x = Due.dairyOf("q1,m00" + ";010".repeat(talks));
            is("promise 9, mites, of " + talks, x.heard(0), sets[talks - 1]);
            is("promise 10, mites, the last one", x.layer(0, 0), (talks - 1) / 2 * 2);
        }
    }

    private static void mitesCountOnlyWhatIsHeard() {
        // Thick 5: talks 1, 2, 4, 6, 7 come by enough; of those the first, the third, the fifth.
        RindTalk x = Due.dairyOf("q1,m05;040;050;060;030;070;010;080;090");
        is("promise 9, mites count what a CHEESE like it would hear", x.heard(0), 2 + 16 + 128);
        // The wax's 1 more is not asked: by 5 it is heard.
        is("promise 9, as a CHEESE, by as much as it is THICK", Due.dairyOf("q1,m05;050").heard(0), 1);
        is("promise 9, as a CHEESE, by 1 less", Due.dairyOf("q1,m05;040").heard(0), 0);
        x.move(0, 2, 0);
        is("promise 9, a move to where it is", x.heard(0), 2 + 16 + 128);
    }

    // Promises 7, 9: 'TURNED: a CHEESE from a DAY on (NONE: never)': each day
    private static void turnedFromADayOn() {
        RindTalk x = Due.dairyOf("q1,c00,c00" + ";010".repeat(8));
        int was = -9;
        for (int day = 0; day < 8; day++) {
            is("promise 7, from which it was", x.wall(0, day), was);
            is("promise 9, turned from day " + day + " on", x.heard(0), (1 << day) - 1);
            is("promise 3, turned from day " + day + " on", x.ofCheese(0, 3), day);
            is("promise 10, its last layer", x.layer(0, 0), day == 0 ? -9 : day - 1);
            is("promise 7, the other one is not", x.ofCheese(1, 3), -9);
            is("promise 9, the other one is not", x.heard(1), 255);
            was = day;
        }
        is("promise 7, below the first day", x.wall(0, -1), -2);
        is("promise 7, behind the last day", x.wall(0, 8), -2);
        is("promise 7, one above NONE", x.wall(0, -8), -2);
        is("promise 7, one below NONE", x.wall(0, -10), -2);
        is("promise 7, the least", x.wall(0, MIN), -2);
        is("promise 7, the most", x.wall(0, MAX), -2);
        is("promise 7, none of these", x.ofCheese(0, 3), 7);
        is("promise 7, the same day again", x.wall(0, 7), 7);
        is("promise 7, never", x.wall(0, -9), 7);
        is("promise 7, never again", x.wall(0, -9), -9);
        is("promise 9, never", x.heard(0), 255);
        RindTalk few = Due.dairyOf("q1,c00;010;010");
        is("promise 7, the first day without a talk", few.wall(0, 2), -9);
        is("promise 9, the first day without a talk", few.heard(0), 3);
        is("promise 7, the last day with a talk", few.wall(0, 1), 2);
        is("promise 9, the last day with a talk", few.heard(0), 1);
    }

    // Terms 1: 'One that is TURNED HEARS nothing on that DAY (that does not count for mites, either)'
    private static void turnedCountsForNoMites() {
        RindTalk x = Due.dairyOf("q1,m00" + ";010".repeat(8));
        int[] sets = {0, 1, 1, 5, 5, 21, 21, 85};
        for (int day = 0; day < 8; day++) {
            x.wall(0, day);
            is("promise 9, mites, turned from " + day, x.heard(0), sets[day]);
        }
        x.wall(0, -9);
        is("promise 9, mites, never turned", x.heard(0), 85);
    }

    // Promises 5, 8: 'from a DAY on a CHEESE lies in a CELLAR': each day
    private static void movedFromADayOn() {
        for (int from = 0; from < 8; from++) {
            RindTalk x = Due.dairyOf("q5,c01,c11" + ";410".repeat(8));
            is("promise 5, the first move", x.move(0, from, 4), 0);
            for (int day = 0; day < 8; day++) {
                is("promise 8, moved on day " + from + ", where on day " + day, x.where(0, day), day < from ? 0 : 4);
                is("promise 8, the other one", x.where(1, day), 1);
            }
            is("promise 9, heard from day " + from + " on", x.heard(0), 255 & -(1 << from));
            is("promise 3, at first", x.ofCheese(0, 1), 0);
        }
        RindTalk x = Due.dairyOf("q5,c01;010");
        is("promise 8, days without a talk", x.move(0, 1, 3), 0);
        is("promise 8, days without a talk", x.where(0, 7), 3);
        is("promise 8, ahead of it", x.where(0, 0), 0);
        is("promise 8, below the first day", x.where(0, -1), -2);
        is("promise 8, behind the last day", x.where(0, 8), -2);
        is("promise 8, NONE is no day", x.where(0, -9), -2);
        is("promise 8, the least", x.where(0, MIN), -2);
        is("promise 8, the most", x.where(0, MAX), -2);
        is("promise 5, NONE is no day", x.move(0, -9, 0), -2);
    }

    private static void whereIs(String name, RindTalk x, int... cellars) {
        for (int day = 0; day < 8; day++) {
            is("promise 8, " + name + ", day " + day, x.where(0, day), cellars[day]);
        }
    }

    // Terms 2: 'of several that have come for it the one of the latest DAY, of several of those the latest told'
    private static void theLatestDayTheLatestTold() {
        RindTalk x = Due.dairyOf("q5,c00,c00;010");
        x.move(0, 4, 1);
        whereIs("one", x, 0, 0, 0, 0, 1, 1, 1, 1);
        x.move(0, 3, 2);
        whereIs("an earlier day, told later", x, 0, 0, 0, 2, 1, 1, 1, 1);
        x.move(0, 4, 3);
        whereIs("the same day, told later", x, 0, 0, 0, 2, 3, 3, 3, 3);
        x.move(0, 5, 4);
        whereIs("a later day", x, 0, 0, 0, 2, 3, 4, 4, 4);
        x.move(1, 5, 1);
        whereIs("the other one's", x, 0, 0, 0, 2, 3, 4, 4, 4);
        x.move(0, 0, 1);
        whereIs("day 0", x, 1, 1, 1, 2, 3, 4, 4, 4);
        x.move(0, 0, 0);
        whereIs("day 0 again", x, 0, 0, 0, 2, 3, 4, 4, 4);
        x.move(0, 7, 0);
        whereIs("day 7", x, 0, 0, 0, 2, 3, 4, 4, 0);
        is("promise 8, the other one", x.where(1, 4), 0);
        is("promise 8, the other one", x.where(1, 5), 1);
    }

    // Terms 2, promise 5: 'MOVES, 8 at most, numbered by how many there are'
    private static void eightMoves() {
        RindTalk x = Due.dairyOf("q3,c00,w10,m20;010");
        for (int m = 0; m < 8; m++) {
            is("promise 34, MOVES", x.many(3), m);
            is("promise 5, number", x.move(m % 3, m, 2), m);
        }
        is("promise 5, a ninth", x.move(0, 0, 1), -4);
        is("promise 5, a ninth of another", x.move(2, 7, 0), -4);
        is("promise 5, UNKNOWN ahead of FULL", x.move(3, 0, 0), -1);
        is("promise 5, UNKNOWN ahead of FULL", x.move(0, 0, 3), -1);
        is("promise 5, OUTSIDE ahead of FULL", x.move(0, 8, 0), -2);
        is("promise 34, still eight", x.many(3), 8);
        is("promise 8, none of these", x.where(0, 0), 2);
        is("promise 8, none of these", x.where(2, 7), 2);
        is("promise 6, one", x.undo(1), 7);
        is("promise 5, the eighth again", x.move(1, 0, 0), 7);
        is("promise 5, and then a ninth", x.move(1, 0, 0), -4);
    }

    // Promise 6: 'The last k MOVES (0 .. as many as there are) are taken back: how many are left. OUTSIDE.'
    private static void movesAreTakenBack() {
        for (int many = 0; many <= 8; many++) {
            for (int k = 0; k <= many; k++) {
                RindTalk x = Due.dairyOf("q5,c00;010");
                for (int m = 0; m < many; m++) {
                    x.move(0, m, 1 + m % 4);
                }
                is("promise 6, below 0", x.undo(-1), -2);
                is("promise 6, one more than there are", x.undo(many + 1), -2);
                is("promise 6, the least", x.undo(MIN), -2);
                is("promise 6, the most", x.undo(MAX), -2);
                is("promise 34, none of these", x.many(3), many);
                int left = many - k;
                is("promise 6, " + k + " of " + many, x.undo(k), left);
                is("promise 34, " + k + " of " + many, x.many(3), left);
                is("promise 6, more than are left", x.undo(left + 1), -2);
                for (int day = 0; day < 8; day++) {
                    int latest = Math.min(day, left - 1);
                    is("promise 8, " + k + " of " + many, x.where(0, day), latest < 0 ? 0 : 1 + latest % 4);
                }
            }
        }
    }

    private static void movesOfNoDairy() {
        RindTalk x = new RindTalk();
        is("promise 6, no dairy, none", x.undo(0), 0);
        is("promise 6, no dairy, one", x.undo(1), -2);
        is("promise 6, no dairy, below 0", x.undo(-1), -2);
        is("promise 5, no dairy", x.move(0, 0, 0), -1);
        is("promise 7, no dairy", x.wall(0, 0), -1);
        is("promise 7, no dairy, UNKNOWN ahead of OUTSIDE", x.wall(0, 8), -1);
        is("promise 8, no dairy", x.where(0, 0), -1);
        is("promise 8, no dairy, UNKNOWN ahead of OUTSIDE", x.where(0, 8), -1);
        is("promise 9, no dairy", x.heard(0), -1);
        is("promise 10, no dairy", x.layer(0, 0), -1);
        is("promise 11, no dairy", x.deep(0, 0), -1);
        is("promise 3, no dairy", x.ofCheese(0, 0), -1);
        is("promise 4, no dairy", x.ofTalk(0, 0), -1);
    }

    // Terms 1, promise 10: 'LAYER 0 is the last one (by the rind), the next one the one ahead of that'
    private static void layersFromTheRindOn() {
        RindTalk x = Due.dairyOf("q1,c03;091;022;033;014;035;046");
        int[] talks = {5, 4, 2, 0};
        for (int d = 0; d < talks.length; d++) {
            is("promise 10, layer " + d, x.layer(0, d), talks[d]);
        }
        is("promise 10, NONE: there are fewer", x.layer(0, 4), -9);
        is("promise 10, NONE: there are fewer", x.layer(0, 7), -9);
        is("promise 10, NONE: there are fewer", x.layer(0, 8), -9);
        is("promise 10, the most", x.layer(0, MAX), -9);
        is("promise 10, d below 0", x.layer(0, -1), -1);
        is("promise 10, the least", x.layer(0, MIN), -1);
        is("promise 10, NONE is no layer", x.layer(0, -9), -1);
        is("promise 10, no such CHEESE", x.layer(1, 0), -1);
        is("promise 10, no such CHEESE", x.layer(-1, 0), -1);
    }

    private static void noLayers() {
        RindTalk x = Due.dairyOf("q1,c09,w09,m09;080;081");
        for (int k = 0; k < 3; k++) {
            is("promise 9, nothing heard", x.heard(k), 0);
            is("promise 10, no layer", x.layer(k, 0), -9);
            is("promise 11, no word", x.deep(k, 0), -9);
        }
    }

    private static void eightLayers() {
        RindTalk x = Due.dairyOf("q1,c00;010;011;012;013;014;015;016;017");
        is("promise 9, all", x.heard(0), 255);
        for (int d = 0; d < 8; d++) {
            is("promise 10, layer " + d, x.layer(0, d), 7 - d);
            is("promise 11, word " + (7 - d), x.deep(0, 7 - d), d + 1);
        }
        is("promise 10, a ninth", x.layer(0, 8), -9);
    }

    // Promise 11: '(1 on); NONE: it is not there. UNKNOWN: CHEESE, WORD'
    private static void depthOfAWord() {
        // Layers from the rind on: words 0, 7, 0, 3.
        RindTalk x = Due.dairyOf("q1,c02;093;020;014;027;030");
        is("promise 11, by the rind", x.deep(0, 0), 1);
        is("promise 11, the last word", x.deep(0, 7), 2);
        is("promise 11, at the heart", x.deep(0, 3), 4);
        is("promise 11, said, but not heard", x.deep(0, 4), -9);
        is("promise 11, not said", x.deep(0, 1), -9);
        is("promise 11, below the first WORD", x.deep(0, -1), -1);
        is("promise 11, behind the last WORD", x.deep(0, 8), -1);
        is("promise 11, NONE is no WORD", x.deep(0, -9), -1);
        is("promise 11, the least", x.deep(0, MIN), -1);
        is("promise 11, the most", x.deep(0, MAX), -1);
        is("promise 11, no such CHEESE", x.deep(1, 0), -1);
        is("promise 11, no such CHEESE", x.deep(-1, 0), -1);
        x.wall(0, 4);
        is("promise 11, turned from the last day on", x.deep(0, 0), 2);
        x.wall(0, 1);
        is("promise 11, turned from day 1 on", x.deep(0, 0), -9);
        is("promise 11, turned from day 1 on", x.deep(0, 3), 1);
    }

    // Promise 3: 'Of a CHEESE: 0 kind, 1 .., 2 .., 3 .. UNKNOWN; OUTSIDE'
    private static void whatOfCheeses() {
        RindTalk x = Due.dairyOf("q5,c49,w30,m21,c12;010");
        int[][] told = {{0, 4, 9, -9}, {1, 3, 0, -9}, {2, 2, 1, -9}, {0, 1, 2, -9}};
        for (int k = 0; k < 4; k++) {
            for (int what = 0; what < 4; what++) {
                is("promise 3, " + what + " of " + k, x.ofCheese(k, what), told[k][what]);
            }
            is("promise 3, below what", x.ofCheese(k, -1), -2);
            is("promise 3, beyond what", x.ofCheese(k, 4), -2);
            is("promise 3, the least what", x.ofCheese(k, MIN), -2);
            is("promise 3, the most what", x.ofCheese(k, MAX), -2);
        }
        for (int k : new int[] {-1, 4, MIN, MAX}) {
            is("promise 3, no such CHEESE", x.ofCheese(k, 0), -1);
            is("promise 3, UNKNOWN ahead of OUTSIDE", x.ofCheese(k, 4), -1);
        }
    }

    // Promise 4: 'Of a TALK: 0 CELLAR, 1 how LOUD, 2 its WORD. UNKNOWN; OUTSIDE'
    private static void whatOfTalks() {
        RindTalk x = Due.dairyOf("q5,c00;410;097;356;122;231;313;084;445");
        int[] loud = {1, 9, 5, 2, 3, 1, 8, 4};
        int[] cellar = {4, 0, 3, 1, 2, 3, 0, 4};
        int[] word = {0, 7, 6, 2, 1, 3, 4, 5};
        for (int t = 0; t < 8; t++) {
            is("promise 4, CELLAR of " + t, x.ofTalk(t, 0), cellar[t]);
            is("promise 4, LOUD of " + t, x.ofTalk(t, 1), loud[t]);
            is("promise 4, WORD of " + t, x.ofTalk(t, 2), word[t]);
            is("promise 4, below what", x.ofTalk(t, -1), -2);
            is("promise 4, beyond what", x.ofTalk(t, 3), -2);
        }
        for (int t : new int[] {-1, 8, MIN, MAX}) {
            is("promise 4, no such TALK", x.ofTalk(t, 0), -1);
            is("promise 4, UNKNOWN ahead of OUTSIDE", x.ofTalk(t, 3), -1);
        }
        is("promise 4, the least what", x.ofTalk(0, MIN), -2);
        is("promise 4, the most what", x.ofTalk(0, MAX), -2);
    }
}
