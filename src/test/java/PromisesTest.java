/** Each promise of the document by answers that were worked out by hand. */
public final class PromisesTest {
    private static final int MIN = Integer.MIN_VALUE, MAX = Integer.MAX_VALUE;
    private static final long LOST = Long.MIN_VALUE;
    private static final Due due = new Due();

    public static void main(String[] args) {
        newObject();
        dairyFaults();
        dairyTexts();
        dairyMakesAnew();
        ofCheeseAndTalk();
        moves();
        walls();
        hearing();
        layersAndDepths();
        cutsRefusals();
        cutsAnswers();
        spare();
        shelve();
        commonAndAlone();
        readings();
        fitting();
        odds();
        sheets();
        copies();
        tellings();
        taps();
        kinds();
        faultOfEachCall();
        many();
        due.end();
    }

    private static void is(String call, long got, long want) {
        due.is(call, got, want);
    }

    // Promise 1
    private static void newObject() {
        RindTalk x = new RindTalk();
        for (int what = 0; what < 5; what++) {
            is("1 many", x.many(what), 0);
        }
        for (int k = 0; k < 4; k++) {
            is("1 lose", x.lose(k), 0);
            is("1 cell", x.cell(k, 0, 0), LOST);
            is("1 cell's fault", x.fault(), 1);
        }
        is("1 trace", x.trace(), 0);
        is("1 fault", new RindTalk().fault(), 0);
        is("1 common", x.common(), -3);
        is("1 ofCheese", x.ofCheese(0, 9), -1);
        is("1 LOST", RindTalk.LOST, LOST);
        is("1 NONE", RindTalk.NONE, -9);
        is("1 FULL", RindTalk.FULL, -4);
        is("1 STATE", RindTalk.STATE, -3);
        is("1 OUTSIDE", RindTalk.OUTSIDE, -2);
        is("1 UNKNOWN", RindTalk.UNKNOWN, -1);
    }

    // Promise 2: refusals and faults, in their order
    private static void dairyFaults() {
        RindTalk x = new RindTalk();
        is("2 no such sheet", x.dairy(4, 7, -1, -1), -1);
        is("2 no such sheet", x.dairy(-1, 0, 0, 0), -1);
        is("2 lane", x.dairy(0, 3, -1, -1), -2);
        is("2 lane", x.dairy(0, -1, 0, 0), -2);
        is("2 nothing is no CAST", x.dairy(0, 1, -1, -1), -11);
        is("2 fault", x.fault(), 1);
        Due.write(x, 0, 1, "q1,c00;010");
        is("2 CAST ahead of SIZE", x.dairy(0, 0, -1, -1), -12);
        is("2 fault", x.fault(), 2);
        is("2 CAST", x.dairy(0, 2, 0, 10), -12);
        is("2 SIZE ahead of INDEX", x.dairy(0, 1, -1, -1), -14);
        is("2 fault", x.fault(), 4);
        is("2 SIZE", x.dairy(0, 1, 0, MIN), -14);
        is("2 INDEX", x.dairy(0, 1, -1, 0), -13);
        is("2 fault", x.fault(), 3);
        is("2 INDEX", x.dairy(0, 1, 11, 0), -13);
        is("2 INDEX", x.dairy(0, 1, 0, 11), -13);
        is("2 INDEX", x.dairy(0, 1, 1, 10), -13);
        is("2 INDEX", x.dairy(0, 1, 1, MAX), -13);
        is("2 INDEX", x.dairy(0, 1, MAX, MAX), -13);
        is("2 INDEX", x.dairy(0, 1, MIN, 3), -13);
        is("2 no cells", x.dairy(0, 1, 10, 0), -100);
        is("2 a FIRST FAULT is none of the machine's", x.fault(), 0);
        is("2 no TALK has come", x.many(0), 0);
        is("2 taken", x.dairy(0, 1, 0, 10), 1);
        is("2 fault", x.fault(), 0);
    }

    private static void text(String text, int want) {
        is("2 " + text, Due.take(new RindTalk(), text), want);
    }

    // Promise 2: texts
    private static void dairyTexts() {
        text("", -100);
        text("c", -100);
        text("Q1", -100);
        text("q", -101);
        text("q0", -101);
        text("q6", -101);
        text("q1", -102);
        text("q1;", -102);
        text("q1,", -103);
        text("q1,x", -103);
        text("q1,c", -104);
        text("q1,c1", -104);
        text("q1,c/", -104);
        text("q5,c5", -104);
        text("q1,c0", -105);
        text("q1,c0:", -105);
        text("q1,c0/", -105);
        text("q1,c09", -106);
        text("q1,c09q", -106);
        text("q1,c09;", -107);
        text("q2,c09;2", -107);
        text("q2,c09;/", -107);
        text("q2,c09;1", -108);
        text("q2,c09;10", -108);
        text("q2,c09;1:", -108);
        text("q2,c09;19", -109);
        text("q2,c09;198", -109);
        text("q2,c09;19/", -109);
        text("q2,c09;197", 1);
        text("q2,c09;197,c00;111", -110);
        text("q2,c09;197;", -111);
        text("q2,c09;197;0", -112);
        text("q2,c09;197;01", -113);
        text("q2,c09;197;010", 2);
        text("q5,c40,w31,m22,c13;411", 1);
        text("q5,c40,w31,m22,c13,c00;411", -118);
        text("q1,c00;010;010;010;010;010;010;010;010", 8);
        text("q1,c00;010;010;010;010;010;010;010;010;010", -138);
        text("q1,c00;010;010;010;010;010;010;010;010q", -138);
        text("q5,c40,w31,m22,c13;411;322;233;144;055;466;377;290", 8);

        RindTalk x = new RindTalk();
        Due.write(x, 1, 2, "xxxq2,w15;093yy");
        is("2 from i on", x.dairy(1, 2, 3, 10), 1);
        is("2 a place counts from the text's begin", x.dairy(1, 2, 3, 11), -110);
        is("2 a place counts from the text's begin", x.dairy(1, 2, 2, 11), -100);
        is("2 what was taken stays", x.ofCheese(0, 2), 5);
        Due.write(x, 1, 2, "q2,w15;093");
        x.put(1, 0, 'q' + 256);
        is("2 an int is a code whole", x.dairy(1, 2, 0, 10), -100);
        x.put(1, 0, 'q');
        x.put(1, 5, -1);
        is("2 below 0", x.dairy(1, 2, 0, 10), -105);
    }

    // Promise 2: all is made anew, or nothing is
    private static void dairyMakesAnew() {
        RindTalk x = Due.dairyOf("q3,c02,w11;091;143");
        x.move(1, 0, 2);
        x.wall(0, 1);
        x.reading(0, 0, 1);
        x.tell(0);
        is("2 refused", Due.take(x, "q3,c02,w11;091;148"), -117);
        is("2 cellars stay", x.many(2), 3);
        is("2 moves stay", x.many(3), 1);
        is("2 readings stay", x.many(4), 1);
        is("2 turned stays", x.ofCheese(0, 3), 1);
        is("2 where stays", x.where(1, 0), 2);
        is("2 taken", Due.take(x, "q3,c02,w11;091"), 1);
        is("2 no moves", x.many(3), 0);
        is("2 no readings", x.many(4), 0);
        is("2 not turned", x.ofCheese(0, 3), -9);
        is("2 as it lies", x.where(1, 0), 1);
        is("2 trace is no part of it", x.trace(), 1);
        is("2 taken again", Due.take(x, "q5,m44;090;090;090"), 3);
        is("2 cheeses", x.many(1), 1);
        is("2 cellars", x.many(2), 5);
        is("2 moves of long ago are gone", x.many(3), 0);
        is("2 readings of long ago are gone", x.many(4), 0);
        is("2 turned long ago is gone", x.ofCheese(0, 3), -9);
    }

    // Promises 3, 4
    private static void ofCheeseAndTalk() {
        RindTalk x = Due.dairyOf("q4,c02,w11,m39;391;243");
        int[][] cheeses = {{0, 0, 2, -9}, {1, 1, 1, -9}, {2, 3, 9, -9}};
        for (int k = 0; k < 3; k++) {
            for (int what = 0; what < 4; what++) {
                is("3 ofCheese", x.ofCheese(k, what), cheeses[k][what]);
            }
        }
        int[][] talks = {{3, 9, 1}, {2, 4, 3}};
        for (int t = 0; t < 2; t++) {
            for (int what = 0; what < 3; what++) {
                is("4 ofTalk", x.ofTalk(t, what), talks[t][what]);
            }
        }
        x.move(2, 0, 1);
        is("3 a move is not at first", x.ofCheese(2, 1), 3);
        x.wall(2, 6);
        is("3 turned", x.ofCheese(2, 3), 6);
        is("3 UNKNOWN first", x.ofCheese(3, 4), -1);
        is("3 UNKNOWN", x.ofCheese(-1, 0), -1);
        is("3 OUTSIDE", x.ofCheese(0, 4), -2);
        is("3 OUTSIDE", x.ofCheese(0, -1), -2);
        is("4 UNKNOWN first", x.ofTalk(2, 3), -1);
        is("4 UNKNOWN", x.ofTalk(-1, 0), -1);
        is("4 OUTSIDE", x.ofTalk(0, 3), -2);
        is("4 OUTSIDE", x.ofTalk(0, -1), -2);
    }

    // Promises 5, 6, 8
    private static void moves() {
        RindTalk x = Due.dairyOf("q3,c00,c10;090");
        is("5 UNKNOWN cheese", x.move(2, 9, 0), -1);
        is("5 UNKNOWN cheese", x.move(-1, 0, 0), -1);
        is("5 UNKNOWN cellar", x.move(0, 9, 3), -1);
        is("5 UNKNOWN cellar", x.move(0, 0, -1), -1);
        is("5 OUTSIDE", x.move(0, 8, 0), -2);
        is("5 OUTSIDE", x.move(0, -1, 0), -2);
        is("5 number", x.move(0, 5, 2), 0);
        is("5 number", x.move(0, 2, 1), 1);
        is("5 of another", x.move(1, 0, 2), 2);
        int[] due = {0, 0, 1, 1, 1, 2, 2, 2};
        for (int day = 0; day < 8; day++) {
            is("8 day " + day, x.where(0, day), due[day]);
            is("8 the other", x.where(1, day), 2);
        }
        is("5 the same day again", x.move(0, 5, 0), 3);
        is("8 the latest told", x.where(0, 7), 0);
        is("5 an earlier day, told later", x.move(0, 4, 1), 4);
        is("8 the latest day", x.where(0, 7), 0);
        is("8 day 4", x.where(0, 4), 1);
        is("5", x.move(0, 0, 1), 5);
        is("8 day 0", x.where(0, 0), 1);
        is("5", x.move(1, 7, 0), 6);
        is("5", x.move(1, 7, 1), 7);
        is("5 FULL", x.move(1, 7, 2), -4);
        is("5 OUTSIDE ahead of FULL", x.move(1, 8, 2), -2);
        is("8 FULL changes nothing", x.where(1, 7), 1);
        is("6 OUTSIDE", x.undo(9), -2);
        is("6 OUTSIDE", x.undo(-1), -2);
        is("6 OUTSIDE changes nothing", x.many(3), 8);
        is("6 none", x.undo(0), 8);
        is("6 one", x.undo(1), 7);
        is("8 ahead of it", x.where(1, 7), 0);
        is("6 five", x.undo(5), 2);
        is("8 ahead of those", x.where(0, 7), 2);
        is("8 ahead of those", x.where(0, 0), 0);
        is("8 ahead of those", x.where(1, 0), 1);
        is("5 numbered by how many there are", x.move(0, 0, 0), 2);
        is("6 all", x.undo(3), 0);
        is("8 UNKNOWN first", x.where(2, 8), -1);
        is("8 UNKNOWN", x.where(-1, 0), -1);
        is("8 OUTSIDE", x.where(0, 8), -2);
        is("8 OUTSIDE", x.where(0, -1), -2);
        is("8 days of no talk", x.where(0, 7), 0);
    }

    // Promise 7
    private static void walls() {
        RindTalk x = Due.dairyOf("q1,c00,m00;091;092;093;094");
        is("7 heard", x.heard(0), 15);
        is("7 never till now", x.wall(0, 2), -9);
        is("7 heard", x.heard(0), 3);
        is("7 again", x.wall(0, 0), 2);
        is("7 heard", x.heard(0), 0);
        is("7 OUTSIDE", x.wall(0, 8), -2);
        is("7 OUTSIDE", x.wall(0, -1), -2);
        is("7 changes nothing", x.ofCheese(0, 3), 0);
        is("7 UNKNOWN first", x.wall(2, 8), -1);
        is("7 never", x.wall(0, -9), 0);
        is("7 heard", x.heard(0), 15);
        is("7 a day without a talk", x.wall(0, 7), -9);
        is("7 heard", x.heard(0), 15);
        is("7 mites", x.heard(1), 5);
        is("7 mites", x.wall(1, 2), -9);
        is("7 mites", x.heard(1), 1);
    }

    // Promise 9
    private static void hearing() {
        // One cheese of a kind and thickness in cellar 0; talks of loudness 1 .. 8 there.
        String same = ";010;020;030;040;050;060;070;080";
        is("9 c thick 0: by 1 at least", Due.dairyOf("q1,c00" + same).heard(0), 255);
        is("9 c thick 1", Due.dairyOf("q1,c01" + same).heard(0), 255);
        is("9 c thick 2", Due.dairyOf("q1,c02" + same).heard(0), 254);
        is("9 c thick 9", Due.dairyOf("q1,c09" + same).heard(0), 0);
        is("9 w thick 0", Due.dairyOf("q1,w00" + same).heard(0), 255);
        is("9 w thick 1", Due.dairyOf("q1,w01" + same).heard(0), 254);
        is("9 w thick 2", Due.dairyOf("q1,w02" + same).heard(0), 252);
        is("9 m thick 0: each other one", Due.dairyOf("q1,m00" + same).heard(0), 85);
        is("9 m thick 1: as a CHEESE", Due.dairyOf("q1,m01" + same).heard(0), 85);
        is("9 m thick 2: as a CHEESE", Due.dairyOf("q1,m02" + same).heard(0), 170);
        // From cellar 4 what is said in cellar 0 comes by 8 less.
        String far = ";090;080;190;150;290;270;390;350";
        is("9 c far", Due.dairyOf("q5,c40" + far).heard(0), 1 + 4 + 16 + 32 + 64 + 128);
        is("9 c far, thick 3", Due.dairyOf("q5,c43" + far).heard(0), 4 + 16 + 32 + 64 + 128);
        is("9 w far, thick 3", Due.dairyOf("q5,w43" + far).heard(0), 16 + 64);
        is("9 m far, thick 3", Due.dairyOf("q5,m43" + far).heard(0), 4 + 32 + 128);
        is("9 w far, thick 0", Due.dairyOf("q5,w40" + far).heard(0), 1 + 4 + 16 + 32 + 64 + 128);
        RindTalk x = Due.dairyOf("q5,c03,m43;490;190;490;190");
        is("9 where it lies", x.heard(0), 2 + 8);
        is("9 mites", x.heard(1), 1 + 4);
        x.move(0, 2, 4);
        is("9 moved", x.heard(0), 2 + 4 + 8);
        x.move(0, 3, 0);
        x.move(0, 0, 4);
        is("9 moved", x.heard(0), 1 + 2 + 4 + 8);
        is("9 UNKNOWN", x.heard(2), -1);
        is("9 UNKNOWN", x.heard(-1), -1);
        is("9 UNKNOWN", x.heard(MAX), -1);
    }

    // Promises 10, 11
    private static void layersAndDepths() {
        // Heard: talks 0, 2, 3, 5 with words 1, 2, 1, 0.
        RindTalk x = Due.dairyOf("q1,c05;091;013;092;051;046;060");
        int[] talks = {5, 3, 2, 0, -9, -9, -9, -9, -9, -9};
        for (int d = 0; d < talks.length; d++) {
            is("10 layer " + d, x.layer(0, d), talks[d]);
        }
        is("10 beyond", x.layer(0, MAX), -9);
        is("10 UNKNOWN", x.layer(0, -1), -1);
        is("10 UNKNOWN", x.layer(0, MIN), -1);
        is("10 UNKNOWN", x.layer(1, 0), -1);
        int[] depths = {1, 2, 3, -9, -9, -9, -9, -9};
        for (int word = 0; word < 8; word++) {
            is("11 word " + word, x.deep(0, word), depths[word]);
        }
        is("11 UNKNOWN", x.deep(0, 8), -1);
        is("11 UNKNOWN", x.deep(0, -1), -1);
        is("11 UNKNOWN: NONE is no word", x.deep(0, -9), -1);
        is("11 UNKNOWN", x.deep(1, 0), -1);
        x.wall(0, 3);
        is("11 turned", x.deep(0, 1), 2);
        is("10 turned", x.layer(0, 0), 2);
    }

    // Promise 12: refusals and faults, in their order
    private static void cutsRefusals() {
        RindTalk x = new RindTalk();
        is("12 UNKNOWN first", x.cuts(4, 3, 0, 21, 2), -1);
        is("12 UNKNOWN", x.cuts(-1, 0, 0, 0, 0), -1);
        is("12 lane", x.cuts(0, 3, 0, 0, 0), -2);
        is("12 lane", x.cuts(0, -1, 0, 0, 0), -2);
        is("12 n", x.cuts(0, 0, 0, 21, 0), -2);
        is("12 n", x.cuts(0, 0, 0, -1, 0), -2);
        is("12 n", x.cuts(0, 0, 0, MIN, 0), -2);
        is("12 n that wraps", x.cuts(0, 0, 0, 1 << 31, 0), -2);
        is("12 what", x.cuts(0, 0, 0, 0, 2), -2);
        is("12 what", x.cuts(0, 0, 0, 0, -1), -2);
        is("12 fault", x.fault(), 0);
        is("12 nothing is no CAST", x.cuts(0, 1, -1, 20, 0), -11);
        x.sheet(0, 2, 6);
        is("12 CAST ahead of INDEX", x.cuts(0, 1, -1, 1, 0), -12);
        is("12 INDEX ahead of STATE", x.cuts(0, 2, -1, 0, 0), -13);
        is("12 INDEX", x.cuts(0, 2, 7, 0, 0), -13);
        is("12 INDEX", x.cuts(0, 2, 0, 4, 0), -13);
        is("12 INDEX", x.cuts(0, 2, 1, 3, 0), -13);
        is("12 INDEX", x.cuts(0, 2, MAX, 20, 0), -13);
        is("12 fault", x.fault(), 3);
        is("12 STATE", x.cuts(0, 2, 0, 3, 0), -3);
        is("12 STATE, of no pairs too", x.cuts(0, 2, 6, 0, 0), -3);
        is("12 fault", x.fault(), 0);
        Due.take(x, "q1,c00;091");
        is("12 no pairs", x.cuts(0, 2, 6, 0, 0), 0);
        is("12 no pairs", x.cuts(0, 2, 6, 0, 1), -9);
        Due.row(x, 0, 1, 9, 0, 9, 0, 1);
        is("12 UNKNOWN of a pair", x.cuts(0, 2, 0, 3, 0), -1);
        is("12 OUTSIDE of a pair", x.cuts(0, 2, 2, 2, 0), -2);
        is("12 a pair", x.cuts(0, 2, 4, 1, 0), 2);
        Due.row(x, 0, 0, 9, 1, 0);
        is("12 OUTSIDE of an earlier pair", x.cuts(0, 2, 0, 2, 0), -2);
        Due.row(x, 0, 0, -1, 1, 0);
        is("12 OUTSIDE below 0", x.cuts(0, 2, 0, 2, 0), -2);
        Due.row(x, 0, 0, 0, -1, 0);
        is("12 a refusal behind IDLE", x.cuts(0, 2, 0, 2, 1), -1);
        x.sheet(0, 0, 60);
        is("12 the most pairs", x.cuts(0, 0, 20, 20, 1), 0);
        is("12 INDEX", x.cuts(0, 0, 21, 20, 1), -13);
    }

    // Promise 12: answers
    private static void cutsAnswers() {
        // Layers of cheese 0: words 3 2 1; of cheese 1 (the first and third): words 3 1.
        RindTalk x = Due.dairyOf("q1,c00,m00;091;092;093");
        Due.row(x, 0, 0, 1, 1, 1, 1, 2, 0, 2, 0, 8);
        is("12 one", x.cuts(0, 2, 0, 1, 0), 8);
        is("12 one", x.cuts(0, 2, 0, 1, 1), -9);
        is("12 two", x.cuts(0, 2, 0, 2, 0), 8);
        is("12 two", x.cuts(0, 2, 0, 2, 1), 1);
        is("12 from 2 on", x.cuts(0, 2, 2, 2, 0), 10);
        is("12 from 2 on", x.cuts(0, 2, 2, 2, 1), -9);
        is("12 four", x.cuts(0, 2, 0, 4, 0), 14);
        is("12 five", x.cuts(0, 2, 0, 5, 1), 1);
        is("12 the last is idle", x.cuts(0, 2, 2, 4, 1), 3);
        Due.row(x, 0, 0, 0, 0, 3);
        is("12 depth 0 is idle", x.cuts(0, 2, 0, 2, 1), 0);
        is("12 depth 0", x.cuts(0, 2, 0, 1, 0), 0);
        is("12 depth 3", x.cuts(0, 2, 0, 2, 0), 14);
    }

    private static void spareIs(RindTalk x, int words, int others, int... due) {
        for (int k = -1; k < due.length - 1; k++) {
            is("13 spare " + words + " " + others + " " + k, x.spare(words, others, k), due[k + 1]);
        }
    }

    // Promise 13
    private static void spare() {
        is("13 UNKNOWN ahead of OUTSIDE", new RindTalk().spare(-1, 0, -2), -1);
        is("13 OUTSIDE ahead of STATE", new RindTalk().spare(-1, 0, -1), -2);
        is("13 OUTSIDE", new RindTalk().spare(0, 256, -1), -2);
        is("13 STATE", new RindTalk().spare(255, 255, 9), -3);
        RindTalk x = Due.dairyOf("q5,c00,c49;493;031;492;033;022;011");
        // Cheese 0: talks 5 4 3 2 1 0 -> words 1 2 3 2 1 3 (those of cellar 4 come by 1); cheese 1: words 2 3.
        is("13 heard", x.heard(0), 63);
        is("13 heard", x.heard(1), 5);
        spareIs(x, 0, 0, 0, 0, 0, -9);
        spareIs(x, 0, 255, 0, 0, 0, -9);
        spareIs(x, 2, 0, 1, 1, 0, -9);
        spareIs(x, 4, 0, 1, 0, 1, -9);
        spareIs(x, 6, 0, 2, 1, 1, -9);
        spareIs(x, 12, 0, 2, 0, 2, -9);
        spareIs(x, 14, 0, 3, 1, 2, -9);
        spareIs(x, 12, 2, 2, 0, 2, -9);
        spareIs(x, 8, 4, -9, -9, -9, -9);
        spareIs(x, 2, 12, 1, 1, 0, -9);
        spareIs(x, 6, 8, 2, 1, 1, -9);
        spareIs(x, 1, 0, -9, -9, -9, -9);
        spareIs(x, 4, 4, -9, -9, -9, -9);
        x = Due.dairyOf("q1,c00,c00,c00,c00;091;092");
        // Of several the first as a row: the later cheeses are cut.
        spareIs(x, 4, 0, 1, 0, 0, 0, 1, -9);
        spareIs(x, 6, 0, 2, 0, 0, 0, 2, -9);
        spareIs(x, 2, 4, -9, -9, -9, -9, -9, -9);
        x.wall(1, 1);
        spareIs(x, 2, 4, 1, 0, 1, 0, 0, -9);
        spareIs(x, 6, 0, 2, 0, 0, 0, 2, -9);
        // Layers from the rind on: words 1 1 1 2 2 3 3 0, of the other one, by mites, 1 2 3 0.
        x = Due.dairyOf("q2,c05,m05;090;093;093;092;092;091;091;091");
        x.move(1, 0, 1);
        spareIs(x, 1, 0, 4, 0, 4, -9);
        spareIs(x, 4, 0, 2, 0, 2, -9);
        x.wall(1, 0);
        spareIs(x, 1, 0, 8, 8, 0, -9);
        spareIs(x, 4, 0, 4, 4, 0, -9);
        spareIs(x, 12, 0, 6, 6, 0, -9);
        spareIs(x, 15, 0, 8, 8, 0, -9);
        spareIs(x, 14, 1, 6, 6, 0, -9);
        spareIs(x, 2, 4, 1, 1, 0, -9);
        spareIs(x, 15, 16, 8, 8, 0, -9);
        spareIs(x, 16, 0, -9, -9, -9, -9);
        is("13 no such cheese", x.spare(6, 0, MAX), -9);
        is("13 UNKNOWN", x.spare(6, 0, MIN), -1);
        is("13 sets", x.spare(MAX, 0, 0), -2);
        is("13 sets", x.spare(255, 255, 0), -9);
    }

    private static void shelveIs(RindTalk x, int... due) {
        for (int k = -1; k < due.length - 1; k++) {
            is("14 shelve " + k, x.shelve(k), due[k + 1]);
        }
    }

    // Promise 14
    private static void shelve() {
        is("14 UNKNOWN ahead of STATE", new RindTalk().shelve(-2), -1);
        is("14 STATE", new RindTalk().shelve(9), -3);
        RindTalk x = Due.dairyOf("q5,c41,c41;010;111;212;313;414");
        shelveIs(x, 2, 0, 1, -9);
        x.move(0, 0, 4);
        shelveIs(x, 2, 0, 1, -9);
        is("14 moves stay", x.where(0, 0), 4);
        is("14 no such cheese", x.shelve(MAX), -9);
        is("14 UNKNOWN", x.shelve(MIN), -1);
        // Whoever is turned hears nothing wherever it is.
        x.wall(0, 2);
        shelveIs(x, 2, 0, 1, -9);
        x.wall(1, 0);
        shelveIs(x, 1, 0, 0, -9);
        x.wall(0, 0);
        shelveIs(x, 0, 0, 0, -9);
        // Words count once: the best is a cellar for a cheese, not the sum of talks.
        x = Due.dairyOf("q3,c01;010;010;111;212;213");
        shelveIs(x, 2, 2, -9);
        x = Due.dairyOf("q3,w09,c01;010;010;111;212;213");
        shelveIs(x, 2, 0, 2, -9);
        x = Due.dairyOf("q5,c01,c01,c01,c01;414;010;212;111;313");
        shelveIs(x, 4, 0, 1, 2, 3, -9);
        x = Due.dairyOf("q5,c01,c05,c01,c05;414;010;252;111;353");
        // In cellar 0 words 0 and 2 are heard, in cellar 1 words 1, 2 and 3: the thick ones bring none.
        shelveIs(x, 4, 0, 0, 1, 0, -9);
        // Mites leave out each other one of what comes there.
        x = Due.dairyOf("q2,m01;010;011;110;010");
        shelveIs(x, 1, 0, -9);
        x = Due.dairyOf("q2,m01;010;011;012;113;011");
        shelveIs(x, 2, 0, -9);
    }

    // Promises 15, 16
    private static void commonAndAlone() {
        RindTalk x = Due.dairyOf("q3,c01,w11,m21;030;131;232;013;114;215");
        // 0: talks 0 (3), 1 (1), 3 (1); 1: talks 1 (3); 2: 1 (1), 2 (3), 5 (1) less the second: 1, 5.
        is("15 heard", x.heard(0), 1 + 2 + 8);
        is("15 heard", x.heard(1), 2);
        is("15 heard", x.heard(2), 2 + 32);
        is("15 common", x.common(), 2);
        is("16 alone", x.alone(0), 1 + 8);
        is("16 alone", x.alone(1), 0);
        is("16 alone", x.alone(2), 32);
        is("16 UNKNOWN", x.alone(3), -1);
        is("16 UNKNOWN", x.alone(-1), -1);
        x.wall(1, 0);
        is("15 turned", x.common(), 0);
        is("16 what the first one heard too", Due.dairyOf("q1,c00,c00;093;095").alone(1), 0);
        is("15 one alone", Due.dairyOf("q1,c00;093;095").common(), 8 + 32);
        is("16 one alone", Due.dairyOf("q1,c00;093;095").alone(0), 8 + 32);
        is("15 words by several talks", Due.dairyOf("q5,c05,c45;093;493").common(), 8);
        is("16 UNKNOWN", new RindTalk().alone(0), -1);
    }

    // Promises 17, 18
    private static void readings() {
        RindTalk x = new RindTalk();
        is("17 UNKNOWN", x.reading(0, 8, 0), -1);
        is("18 none", x.back(0), 0);
        is("18 OUTSIDE", x.back(1), -2);
        Due.take(x, "q2,c01,c11;091;092");
        is("17 UNKNOWN cheese", x.reading(2, 0, 0), -1);
        is("17 UNKNOWN word ahead of OUTSIDE", x.reading(0, 8, 8), -1);
        is("17 UNKNOWN word", x.reading(0, 0, -1), -1);
        is("17 OUTSIDE", x.reading(0, 8, 0), -2);
        is("17 OUTSIDE", x.reading(0, -1, -9), -2);
        is("17 none has come", x.many(4), 0);
        for (int r = 0; r < 8; r++) {
            is("17 number", x.reading(1, r, r == 7 ? -9 : r), r);
        }
        is("17 FULL", x.reading(0, 0, 2), -4);
        is("17 OUTSIDE ahead of FULL", x.reading(0, 8, 2), -2);
        is("18 OUTSIDE", x.back(9), -2);
        is("18 OUTSIDE", x.back(-1), -2);
        is("18 OUTSIDE changes nothing", x.many(4), 8);
        is("18 three", x.back(3), 5);
        is("17 number", x.reading(0, 0, 2), 5);
        is("18 none", x.back(0), 6);
        is("18 all", x.back(6), 0);
        is("18 the moves are others", x.many(3), 0);
    }

    // Promises 19 to 22
    private static void fitting() {
        RindTalk x = Due.dairyOf("q3,c03,m21;051;142;233");
        is("19 no readings", x.louds(0), 1022);
        is("20 no readings", x.words(2), 255);
        is("21 no readings", x.kinds(1), 7);
        is("22 no readings", x.lay(0), 7);
        // Cheese 0 hears talk 0 alone (5; 2; -1), cheese 1 talks 0 (1), 1 (2), 2 (3) less the second.
        x.reading(0, 0, 1);
        x.reading(0, 1, -9);
        is("19 loud enough", x.louds(0), 1022 - 2 - 4);
        is("19 too loud from 5 on", x.louds(1), 2 + 4 + 8 + 16);
        is("19 too loud from 7 on", x.louds(2), 2 + 4 + 8 + 16 + 32 + 64);
        is("20 the word that is read", x.words(0), 2);
        is("20 not heard by it", x.words(1), 255);
        is("21 each kind hears the first talk alone", x.kinds(0), 7);
        is("21 the other one", x.kinds(1), 7);
        is("22 cellar 0 alone", x.lay(0), 1);
        is("22 the other one", x.lay(1), 7);
        x.back(2);
        x.reading(1, 0, 3);
        x.reading(1, 1, 1);
        is("21 mited: talks 2, 0", x.kinds(1), 4);
        is("22 from there alone", x.lay(1), 2 + 4);
        is("19 talk 0 comes by 1 at 5", x.louds(0), 32 + 64 + 128 + 256 + 512);
        // Talk 1 less loud than 3 is not heard: then mites leave out talk 2.
        is("19 talk 1 is the second", x.louds(1), 1022 - 2 - 4);
        is("20 talk 1 is left out", x.words(1), 255);
        is("20 talk 2", x.words(2), 8);
        is("19 told ones stay", x.ofTalk(1, 1), 4);
        is("20 told ones stay", x.ofTalk(2, 2), 3);
        is("21 told ones stay", x.ofCheese(1, 0), 2);
        is("22 told ones stay", x.ofCheese(1, 1), 2);
        is("21 a reading that is not so", x.reading(0, 5, 5), 2);
        is("19 none fits", x.louds(0), 0);
        is("20 none fits", x.words(0), 0);
        is("21 none fits", x.kinds(0), 0);
        is("22 none fits", x.lay(0), 0);
        fittingMovedAndTurned();
        is("19 UNKNOWN", x.louds(3), -1);
        is("19 UNKNOWN", x.louds(-1), -1);
        is("20 UNKNOWN", x.words(3), -1);
        is("20 UNKNOWN", x.words(-1), -1);
        is("21 UNKNOWN", x.kinds(2), -1);
        is("21 UNKNOWN", x.kinds(-1), -1);
        is("22 UNKNOWN", x.lay(2), -1);
        is("22 UNKNOWN", x.lay(-1), -1);
    }

    private static void fittingMovedAndTurned() {
        RindTalk x = Due.dairyOf("q5,c01;010;411;212");
        x.move(0, 1, 4);
        x.reading(0, 0, 1);
        x.reading(0, 1, -9);
        is("22 at first only", x.lay(0), 2 + 4 + 8 + 16);
        x.back(1);
        is("22 the move holds", x.lay(0), 31);
        x.reading(0, 1, 0);
        is("22 where the first talk was", x.lay(0), 1);
        x.wall(0, 0);
        is("22 turned", x.lay(0), 0);
        x.back(2);
        x.reading(0, 0, -9);
        is("22 turned, and no layer", x.lay(0), 31);
        is("19 turned, and no layer", x.louds(1), 1022);
    }

    private static void oddsAre(RindTalk x, int k, int word, long upper, long lower) {
        is("23 upper " + k + " " + word, x.odds(k, word, 0), upper);
        is("23 lower " + k + " " + word, x.odds(k, word, 1), lower);
    }

    // Promise 23
    private static void odds() {
        is("23 UNKNOWN", new RindTalk().odds(0, 0, 0), LOST);
        RindTalk x = Due.dairyOf("q2,c02,w00,m00;095;096;195;016");
        is("23 UNKNOWN cheese", x.odds(3, 0, 0), LOST);
        is("23 UNKNOWN cheese", x.odds(-1, 0, 0), LOST);
        is("23 UNKNOWN word", x.odds(0, 8, 0), LOST);
        is("23 UNKNOWN word", x.odds(0, -1, 0), LOST);
        is("23 OUTSIDE", x.odds(0, 0, 2), LOST);
        is("23 OUTSIDE", x.odds(0, 0, -1), LOST);
        // Thick 2: whispers are not heard; word 5 by two talks.
        oddsAre(x, 0, 5, 3, 4);
        oddsAre(x, 0, 6, 1, 2);
        oddsAre(x, 0, 0, 0, 1);
        // Waxed, thick 0: whispers of its own cellar are heard, talk 3 in any case.
        oddsAre(x, 1, 5, 1, 1);
        oddsAre(x, 1, 6, 1, 1);
        // Mited: talks 0 and 1 come; talk 2 if not whispered, and then talk 3 is left out.
        oddsAre(x, 2, 5, 1, 1);
        oddsAre(x, 2, 6, 1, 2);
        x.wall(0, 2);
        oddsAre(x, 0, 5, 1, 2);
        x.wall(0, 0);
        oddsAre(x, 0, 5, 0, 1);
        x.wall(0, -9);
        x.move(0, 2, 1);
        oddsAre(x, 0, 5, 3, 4);
        x.reading(0, 0, 3);
        oddsAre(x, 0, 5, 3, 4);
        // Mites: word 7 is heard if the talks ahead of it are heard an even number of times.
        x = Due.dairyOf("q1,m05;091;092;093;097");
        oddsAre(x, 0, 7, 1, 4);
        oddsAre(x, 0, 1, 1, 2);
        oddsAre(x, 0, 2, 1, 4);
        x = Due.dairyOf("q1,c05;097;097;097;097;097;097;097;097");
        oddsAre(x, 0, 7, 255, 256);
    }

    // Promises 24 to 27
    private static void sheets() {
        RindTalk x = new RindTalk();
        is("24 UNKNOWN first", x.sheet(4, 3, 61), -1);
        is("24 UNKNOWN", x.sheet(-1, 0, 0), -1);
        is("24 OUTSIDE ahead of SIZE", x.sheet(0, 3, -1), -2);
        is("24 OUTSIDE", x.sheet(0, -1, 1), -2);
        is("24 OUTSIDE", x.sheet(0, 0, 61), -2);
        is("24 SIZE", x.sheet(0, 0, -1), -14);
        is("24 fault", x.fault(), 4);
        is("24 SIZE", x.sheet(0, 0, MIN), -14);
        is("24 nothing has come", x.lose(0), 0);
        is("24 a row", x.sheet(0, 0, 60), 1);
        is("26 last", x.put(0, 59, 7), 1);
        is("27 last", x.cell(0, 59, 0), 7);
        is("26 INDEX", x.put(0, 60, 7), -13);
        is("26 INDEX", x.put(0, -1, 7), -13);
        is("26 INDEX", x.put(0, MAX, 7), -13);
        is("26 INDEX", x.put(0, MIN, 7), -13);
        is("26 UNKNOWN", x.put(4, 60, 7), -1);
        is("26 UNKNOWN", x.put(-1, 60, 7), -1);
        is("26 NULL", x.put(1, 60, 7), -11);
        is("26 fault", x.fault(), 1);
        is("24 refused", x.sheet(0, 2, -5), -14);
        is("24 changes nothing", x.cell(0, 59, 0), 7);
        is("24 anew", x.sheet(0, 0, 60), 1);
        is("24 zeros", x.cell(0, 59, 0), 0);
        int[] values = {0, 1, -1, 127, 128, -128, -129, 255, 256, 32767, 32768, -32768, -32769, 65535, 65536, MAX, MIN};
        for (int v : values) {
            x.sheet(0, 0, 1);
            x.put(0, 0, v);
            is("26 byte " + v, x.cell(0, 0, 0), (byte) v);
            x.sheet(0, 1, 1);
            x.put(0, 0, v);
            is("26 short " + v, x.cell(0, 0, 1), (short) v);
            x.sheet(0, 2, 1);
            x.put(0, 0, v);
            is("26 int " + v, x.cell(0, 0, 2), v);
        }
        cells(x);
        is("25 UNKNOWN", x.lose(4), -1);
        is("25 UNKNOWN", x.lose(-1), -1);
        x.sheet(2, 1, 0);
        is("25 a row of none is something", x.lose(2), 1);
        is("25 nothing", x.lose(2), 0);
        is("26 NULL", x.put(2, 0, 0), -11);
        is("24 a row of none", x.sheet(2, 1, 0), 1);
        is("26 INDEX", x.put(2, 0, 0), -13);
        is("27 INDEX", x.cell(2, 0, 1), LOST);
        is("27 fault", x.fault(), 3);
    }

    private static void cells(RindTalk x) {
        x.sheet(1, 1, 3);
        x.put(1, 2, 9);
        is("27 cell", x.cell(1, 2, 1), 9);
        is("27 fault", x.fault(), 0);
        is("27 CAST ahead of INDEX", x.cell(1, 3, 2), LOST);
        is("27 fault", x.fault(), 2);
        is("27 INDEX", x.cell(1, 3, 1), LOST);
        is("27 fault", x.fault(), 3);
        is("27 INDEX", x.cell(1, -1, 1), LOST);
        is("27 fault", x.fault(), 3);
        is("27 OUTSIDE", x.cell(1, -1, 3), LOST);
        is("27 fault", x.fault(), 0);
        x.cell(1, -1, 1);
        is("27 UNKNOWN", x.cell(4, -1, 1), LOST);
        is("27 fault", x.fault(), 0);
        is("27 nothing is no CAST", x.cell(2, -1, 1), LOST);
        is("27 fault", x.fault(), 1);
        is("27 OUTSIDE", x.cell(1, 0, -1), LOST);
        is("27 fault", x.fault(), 0);
    }

    private static void rowIs(RindTalk x, int sheet, int... due) {
        for (int i = 0; i < due.length; i++) {
            is("28 cell " + i, x.cell(sheet, i, 2), due[i]);
        }
    }

    // Promise 28
    private static void copies() {
        RindTalk x = new RindTalk();
        Due.row(x, 0, 1, 2, 3, 4, 5);
        is("28 UNKNOWN first", x.copy(4, 0, 1, 0, 0), -1);
        is("28 UNKNOWN other", x.copy(1, 0, 4, 0, 0), -1);
        is("28 UNKNOWN", x.copy(-1, 0, 0, 0, 0), -1);
        is("28 UNKNOWN", x.copy(0, 0, -1, 0, 0), -1);
        is("28 NULL first", x.copy(1, -1, 0, 0, 0), -11);
        is("28 NULL other", x.copy(0, -1, 1, 0, 0), -11);
        is("28 fault", x.fault(), 1);
        x.sheet(1, 1, 5);
        is("28 CAST ahead of INDEX", x.copy(0, -1, 1, 0, 9), -12);
        is("28 fault", x.fault(), 2);
        x.sheet(1, 2, 3);
        is("28 INDEX i", x.copy(0, -1, 1, 0, 0), -13);
        is("28 INDEX j", x.copy(0, 0, 1, -1, 0), -13);
        is("28 INDEX n", x.copy(0, 0, 1, 0, -1), -13);
        is("28 INDEX n", x.copy(0, 5, 1, 3, MIN), -13);
        is("28 INDEX i", x.copy(0, 6, 1, 0, 0), -13);
        is("28 INDEX j", x.copy(0, 0, 1, 4, 0), -13);
        is("28 INDEX i and n", x.copy(0, 3, 1, 0, 3), -13);
        is("28 INDEX j and n", x.copy(0, 0, 1, 1, 3), -13);
        is("28 INDEX wraps", x.copy(0, MAX, 1, MAX, MAX), -13);
        is("28 INDEX wraps", x.copy(0, 1, 1, 0, MAX), -13);
        is("28 fault", x.fault(), 3);
        rowIs(x, 1, 0, 0, 0);
        is("28 none at the end", x.copy(0, 5, 1, 3, 0), 0);
        is("28 fault", x.fault(), 0);
        is("28 two", x.copy(0, 3, 1, 1, 2), 2);
        rowIs(x, 1, 0, 4, 5);
        is("28 the same, on", x.copy(0, 0, 0, 1, 4), 4);
        rowIs(x, 0, 1, 1, 2, 3, 4);
        is("28 the same, back", x.copy(0, 1, 0, 0, 4), 4);
        rowIs(x, 0, 1, 2, 3, 4, 4);
        is("28 all", x.copy(0, 0, 0, 0, 5), 5);
        is("28 the first stays", x.copy(1, 1, 0, 0, 2), 2);
        rowIs(x, 0, 4, 5, 3, 4, 4);
        rowIs(x, 1, 0, 4, 5);
    }

    // Promises 29, 32
    private static void tellings() {
        RindTalk x = Due.dairyOf("q1,c03,w04,m05;090");
        is("29 UNKNOWN", x.tell(3), -1);
        is("29 UNKNOWN", x.tell(-1), -1);
        is("32 no trace of that", x.trace(), 0);
        is("29 CHEESE", x.tell(0), 3);
        is("32 1", x.trace(), 1);
        is("29 WAXED", x.tell(1), 104);
        is("32 1 2 1", x.trace(), (1 * 31 + 2) * 31 + 1);
        is("29 MITED", x.tell(2), 110);
        int trace = (1 * 31 + 2) * 31 + 1;
        for (int body : new int[] {3, 2, 1, 1}) {
            trace = 31 * trace + body;
        }
        is("32 3 2 1 1", x.trace(), trace);
        for (int round = 0; round < 20; round++) {
            x.tell(1);
            trace = 31 * (31 * trace + 2) + 1;
            is("32 wraps", x.trace(), trace);
        }
    }

    // Promises 30, 32
    private static void taps() {
        RindTalk x = Due.dairyOf("q1,c03,w04,m05,w06;090");
        is("30 UNKNOWN", x.tap(4), -1);
        is("30 UNKNOWN", x.tap(-1), -1);
        is("32 no trace of that", x.trace(), 0);
        is("30 CHEESE: its number", x.tap(0), 0);
        is("32 4", x.trace(), 4);
        is("30 WAXED: its number", x.tap(1), 1);
        is("32 4 4", x.trace(), 4 * 31 + 4);
        is("30 MITED", x.tap(2), 70);
        is("32 4 4 5", x.trace(), (4 * 31 + 4) * 31 + 5);
        is("30 WAXED: its number", x.tap(3), 3);
    }

    // Promise 31
    private static void kinds() {
        RindTalk x = Due.dairyOf("q1,c03,w04,m05;090");
        for (int k = 0; k < 3; k++) {
            for (int kind = 0; kind < 3; kind++) {
                is("31 as", x.as(k, kind), kind <= k ? 1 : -12);
                is("31 fault", x.fault(), kind <= k ? 0 : 2);
            }
        }
        is("31 UNKNOWN first", x.as(3, 3), -1);
        is("31 UNKNOWN", x.as(-1, 0), -1);
        is("31 OUTSIDE", x.as(0, 3), -2);
        is("31 OUTSIDE", x.as(0, -1), -2);
        is("31 no trace", x.trace(), 0);
    }

    // Promise 33: which calls set it, and which leave it
    private static void faultOfEachCall() {
        RindTalk x = Due.dairyOf("q2,c03;090");
        x.as(0, 2);
        is("33", x.fault(), 2);
        is("33 asking leaves it", x.fault(), 2);
        x.ofCheese(9, 0); x.ofTalk(9, 0); x.move(9, 0, 0); x.undo(9); x.wall(9, 0);
        x.where(9, 0); x.heard(9); x.layer(9, 0); x.deep(9, 0);
        x.spare(0, 0, -2); x.shelve(-2); x.common(); x.alone(9);
        x.reading(9, 0, 0); x.back(9); x.louds(9); x.words(9); x.kinds(9); x.lay(9); x.odds(9, 0, 0);
        x.lose(9); x.lose(0); x.tell(0); x.tap(0); x.trace(); x.many(9);
        is("33 calls that name none leave it", x.fault(), 2);
        x.as(9, 0);
        is("33 as, refused", x.fault(), 0);
        x.put(0, 0, 0);
        is("33 put", x.fault(), 1);
        x.put(9, 0, 0);
        is("33 put, refused", x.fault(), 0);
        x.sheet(0, 0, -1);
        is("33 sheet", x.fault(), 4);
        x.sheet(0, 9, -1);
        is("33 sheet, refused", x.fault(), 0);
        x.copy(0, 0, 1, 0, 0);
        is("33 copy", x.fault(), 1);
        x.copy(9, 0, 1, 0, 0);
        is("33 copy, refused", x.fault(), 0);
        x.cuts(0, 0, 0, 0, 0);
        is("33 cuts", x.fault(), 1);
        x.cuts(0, 0, 0, 0, 9);
        is("33 cuts, refused", x.fault(), 0);
        x.dairy(0, 0, 0, 0);
        is("33 dairy", x.fault(), 1);
        x.dairy(0, 9, 0, 0);
        is("33 dairy, refused", x.fault(), 0);
        x.dairy(0, 0, 0, 0);
        x.sheet(0, 0, 3);
        is("33 sheet, come to none", x.fault(), 0);
        x.put(0, 3, 0);
        is("33 put", x.fault(), 3);
        x.dairy(0, 0, 0, 3);
        is("33 dairy, a FIRST FAULT", x.fault(), 0);
        x.put(0, 3, 0);
        x.put(0, 2, 0);
        is("33 put, come to none", x.fault(), 0);
        x.put(0, 3, 0);
        x.cuts(0, 0, 0, 1, 0);
        is("33 cuts, come to none", x.fault(), 0);
    }

    // Promise 34
    private static void many() {
        RindTalk x = Due.dairyOf("q4,c03,w13;090;191;292");
        x.move(0, 0, 0);
        x.move(0, 0, 0);
        x.reading(0, 0, 0);
        x.reading(0, 0, 1);
        x.reading(0, 0, 1);
        x.reading(0, 0, 1);
        x.reading(0, 0, 1);
        int[] due = {3, 2, 4, 2, 5};
        for (int what = 0; what < 5; what++) {
            is("34 many " + what, x.many(what), due[what]);
        }
        is("34 OUTSIDE", x.many(5), -2);
        is("34 OUTSIDE", x.many(-1), -2);
        is("34 OUTSIDE", x.many(MIN), -2);
    }
}
