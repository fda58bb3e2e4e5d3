/** Terms 1 and promise 2: the edges of a text, and where its FIRST FAULT is. */
public final class TextEdgesTest {
    private static final Due due = new Due();
    private static final String FULLEST = "q5,c40,w31,m22,c13;411;322;233;144;095;466;377;290";

    public static void main(String[] args) {
        cellarsAreOneToFive();
        cheesesLieInACellarThatThereIs();
        talksAreSaidInACellarThatThereIs();
        lettersOfKinds();
        thickIsZeroToNine();
        loudIsOneToNine();
        wordsAreZeroToSeven();
        oneToFourCheesesOneToEightTalks();
        aFifthCheese();
        aNinthTalk();
        nothingBehindAText();
        eachBegin();
        eachCodeInEachPlace();
        codesOfWiderLanes();
        codesCutToTheirLane();
        textsAtTheEndsOfARow();
        placesCountFromTheTextsBegin();
        refusedTextsLeaveAll();
        takenTextsMakeAllAnew();
        eachOfSeveralTextsMakesAllAnew();
        due.end();
    }

    private static void text(String name, String text, int want) {
        due.is("promise 2, " + name + ", " + text, Due.take(new RindTalk(), text), want);
    }

    // 'q, a digit 1 .. 5 (CELLARS ..)'
    private static void cellarsAreOneToFive() {
        String name = "a digit 1 .. 5";
        text(name, "q0,c00;010", -101);
        text(name, "q/,c00;010", -101);
        text(name, "q6,c00;010", -101);
        text(name, "q9,c00;010", -101);
        for (int cellars = 1; cellars <= 5; cellars++) {
            RindTalk x = Due.dairyOf("q" + cellars + ",c00;010");
            due.is("promise 34, CELLARS of q" + cellars, x.many(2), cellars);
        }
    }

    // 'a digit (the CELLAR where it lies, one that there is)'
    private static void cheesesLieInACellarThatThereIs() {
        String name = "the CELLAR where it lies, one that there is";
        for (int cellars = 1; cellars <= 5; cellars++) {
            for (int cellar = 0; cellar <= 9; cellar++) {
                text(name, "q" + cellars + ",c" + cellar + "0;010", cellar < cellars ? 1 : -104);
                text(name, "q" + cellars + ",c00,w" + cellar + "0;010", cellar < cellars ? 1 : -108);
            }
            text(name, "q" + cellars + ",c/0;010", -104);
            text(name, "q" + cellars + ",c:0;010", -104);
        }
        due.is("promise 3, the last CELLAR", Due.dairyOf("q5,c40;010").ofCheese(0, 1), 4);
        due.is("promise 3, the first CELLAR", Due.dairyOf("q5,c00;010").ofCheese(0, 1), 0);
    }

    // '; and a digit (its CELLAR, one that there is)'
    private static void talksAreSaidInACellarThatThereIs() {
        String name = "its CELLAR, one that there is";
        for (int cellars = 1; cellars <= 5; cellars++) {
            for (int cellar = 0; cellar <= 9; cellar++) {
                text(name, "q" + cellars + ",c00;" + cellar + "10", cellar < cellars ? 1 : -107);
                text(name, "q" + cellars + ",c00;010;" + cellar + "10", cellar < cellars ? 2 : -111);
            }
            text(name, "q" + cellars + ",c00;/10", -107);
            text(name, "q" + cellars + ",c00;:10", -107);
        }
        due.is("promise 4, the last CELLAR", Due.dairyOf("q5,c00;410").ofTalk(0, 0), 4);
        due.is("promise 4, the first CELLAR", Due.dairyOf("q5,c00;010").ofTalk(0, 0), 0);
    }

    // 'Kinds: 0 CHEESE (c); 1 WAXED (w) ..; 2 MITED (m) ..'
    private static void lettersOfKinds() {
        String letters = "cwm";
        for (int kind = 0; kind < 3; kind++) {
            due.is("promise 3, kind", Due.dairyOf("q1," + letters.charAt(kind) + "00;010").ofCheese(0, 0), kind);
        }
        for (char letter : "bdvxlnqCWM,;0 ".toCharArray()) {
            text("a letter", "q1," + letter + "00;010", -103);
        }
    }

    // 'a digit 0 .. 9 (THICK)'
    private static void thickIsZeroToNine() {
        for (int thick = 0; thick <= 9; thick++) {
            due.is("promise 3, THICK", Due.dairyOf("q1,c0" + thick + ";010").ofCheese(0, 2), thick);
        }
        text("THICK 0 .. 9", "q1,c0/;010", -105);
        text("THICK 0 .. 9", "q1,c0:;010", -105);
        text("THICK 0 .. 9", "q1,c0;010", -105);
    }

    // 'a digit 1 .. 9 (LOUD)'
    private static void loudIsOneToNine() {
        text("LOUD 1 .. 9", "q1,c00;000", -108);
        text("LOUD 1 .. 9", "q1,c00;0/0", -108);
        text("LOUD 1 .. 9", "q1,c00;0:0", -108);
        for (int loud = 1; loud <= 9; loud++) {
            due.is("promise 4, LOUD", Due.dairyOf("q1,c00;0" + loud + "0").ofTalk(0, 1), loud);
        }
    }

    // 'a digit 0 .. 7 (its WORD)'
    private static void wordsAreZeroToSeven() {
        text("WORD 0 .. 7", "q1,c00;01/", -109);
        text("WORD 0 .. 7", "q1,c00;018", -109);
        text("WORD 0 .. 7", "q1,c00;019", -109);
        text("WORD 0 .. 7", "q1,c00;01:", -109);
        for (int word = 0; word <= 7; word++) {
            due.is("promise 4, WORD", Due.dairyOf("q1,c00;01" + word).ofTalk(0, 2), word);
        }
    }

    private static String textOf(int cheeses, int talks) {
        return "q1" + ",c00".repeat(cheeses) + ";010".repeat(talks);
    }

    // '1 to 4 CHEESES .. 1 to 8 TALKS': each number of both
    private static void oneToFourCheesesOneToEightTalks() {
        text("no CHEESE: the ; is the first fault", textOf(0, 1), -102);
        text("no CHEESE: it ends too soon", textOf(0, 0), -102);
        for (int cheeses = 1; cheeses <= 4; cheeses++) {
            text("no TALK: it ends too soon", textOf(cheeses, 0), -100 - (2 + 4 * cheeses));
            for (int talks = 1; talks <= 8; talks++) {
                text("1 to 4 CHEESES, 1 to 8 TALKS", textOf(cheeses, talks), talks);
                RindTalk x = Due.dairyOf(textOf(cheeses, talks));
                due.is("promise 34, TALKS", x.many(0), talks);
                due.is("promise 34, CHEESES", x.many(1), cheeses);
                due.is("promise 3, the last CHEESE", x.ofCheese(cheeses - 1, 0), 0);
                due.is("promise 3, one behind it", x.ofCheese(cheeses, 0), -1);
                due.is("promise 4, the last TALK", x.ofTalk(talks - 1, 1), 1);
                due.is("promise 4, one behind it", x.ofTalk(talks, 1), -1);
            }
        }
    }

    // 'the first code with which no TEXT goes on (the , of a fifth CHEESE ..)'
    private static void aFifthCheese() {
        text("the , of a fifth CHEESE", textOf(5, 1), -118);
        text("the , of a fifth CHEESE, the last code", textOf(4, 0) + ",", -118);
        text("the , of a fifth CHEESE, whatever is behind it", textOf(4, 0) + ",x", -118);
        text("four CHEESES, then another code", textOf(4, 0) + "c", -118);
        text("a CHEESE behind a TALK", textOf(1, 1) + ",c00", -110);
        text("a CHEESE behind eight TALKS", textOf(1, 8) + ",c00", -138);
    }

    // '.. the ; of a ninth TALK'
    private static void aNinthTalk() {
        for (int cheeses = 1; cheeses <= 4; cheeses++) {
            int place = 2 + 4 * cheeses + 32;
            text("the ; of a ninth TALK", textOf(cheeses, 9), -100 - place);
            text("the ; of a ninth TALK, the last code", textOf(cheeses, 8) + ";", -100 - place);
            text("the ; of a ninth TALK, whatever is behind it", textOf(cheeses, 8) + ";x", -100 - place);
        }
    }

    private static void nothingBehindAText() {
        for (char code : "0cq,x".toCharArray()) {
            text("a code behind a TALK", "q1,c00;010" + code, -110);
            text("a code behind a TALK", FULLEST + code, -150);
        }
        text("a code of 0 behind a TALK", "q1,c00;010\0", -110);
    }

    // 'how many codes there are, if it just ends too soon': each begin of the longest text
    private static void eachBegin() {
        for (int n = 0; n <= FULLEST.length(); n++) {
            boolean isText = n >= 22 && (n - 2) % 4 == 0;
            text("ends too soon", FULLEST.substring(0, n), isText ? (n - 18) / 4 : -100 - n);
        }
    }

    /** The codes with which "q3,c02,w11;291;157" goes on in each of its places. */
    private static final String[] GOES_ON = {"q", "12345",
        ",", "cwm", "012", "0123456789", ",;", "cwm", "012", "0123456789",
        ";,", "012", "123456789", "01234567", ";", "012", "123456789", "01234567"};

    /** A code of a place changed to one that goes on there, but leads to a fault in a later place. */
    private static int laterFault(int place, char code) {
        if (place == 1 && code < '3') {
            return code == '1' ? 8 : 11;
        }
        if (place == 6 && code == ';') {
            return 7;
        }
        return place == 10 && code == ',' ? 11 : -1;
    }

    // '(Codes: q 113, c 99, w 119, m 109, ; 59, comma 44, digits 48 .. 57.)': each code of a byte in each place
    private static void eachCodeInEachPlace() {
        String good = "q3,c02,w11;291;157";
        for (int place = 0; place < good.length(); place++) {
            RindTalk x = new RindTalk();
            Due.write(x, 0, 0, good);
            for (int code = -128; code < 128; code++) {
                boolean goesOn = code >= 0 && GOES_ON[place].indexOf(code) >= 0;
                int later = goesOn ? laterFault(place, (char) code) : place;
                x.put(0, place, code);
                String name = "promise 2, code " + code + " in place " + place;
                due.is(name, x.dairy(0, 0, 0, good.length()), later < 0 ? 2 : -100 - later);
                // An object is used for 512 calls at most.
                if (code == 0) {
                    x = new RindTalk();
                    Due.write(x, 0, 0, good);
                }
            }
        }
    }

    // A short or an int is a code as a whole
    private static void codesOfWiderLanes() {
        String good = "q3,c02,w11;291;157";
        for (int lane = 1; lane <= 2; lane++) {
            for (int place = 0; place < good.length(); place++) {
                RindTalk x = new RindTalk();
                Due.write(x, 1, lane, good);
                due.is("promise 2, lane " + lane, x.dairy(1, lane, 0, good.length()), 2);
                int[] others = lane == 1 ? new int[] {256, -256, 1024, 32512}
                    : new int[] {256, 65536, -65536, 1 << 31, Integer.MAX_VALUE - 127};
                for (int more : others) {
                    x.put(1, place, good.charAt(place) + more);
                    due.is("promise 2, a code and " + more, x.dairy(1, lane, 0, good.length()), -100 - place);
                }
            }
        }
    }

    // 'what comes to a cell of it is cut to its LANE': what is beyond it is not there
    private static void codesCutToTheirLane() {
        String good = "q3,c02,w11;291;157";
        int[][] more = {{256, -256, 65536, 1 << 31}, {65536, -65536, 1 << 31}};
        for (int lane = 0; lane <= 1; lane++) {
            for (int beyond : more[lane]) {
                RindTalk x = new RindTalk();
                x.sheet(2, lane, good.length());
                for (int i = 0; i < good.length(); i++) {
                    x.put(2, i, good.charAt(i) + beyond);
                }
                due.is("promise 2, codes cut to lane " + lane, x.dairy(2, lane, 0, good.length()), 2);
            }
        }
    }

    // 'INDEX: not all cells are there': texts that end with the row, or one cell behind it
    private static void textsAtTheEndsOfARow() {
        for (int sheet = 0; sheet < 4; sheet++) {
            RindTalk x = new RindTalk();
            Due.write(x, sheet, 0, "0123456789" + FULLEST);
            due.is("promise 2, up to the last of 60 cells", x.dairy(sheet, 0, 10, 50), 8);
            due.is("promise 2, one cell less", x.dairy(sheet, 0, 10, 49), -149);
            due.is("promise 2, one cell more", x.dairy(sheet, 0, 10, 51), -13);
            due.is("promise 2, one cell on", x.dairy(sheet, 0, 11, 50), -13);
            due.is("promise 2, one cell on and one less", x.dairy(sheet, 0, 11, 49), -100);
            due.is("promise 2, the last cell", x.dairy(sheet, 0, 59, 1), -100);
            due.is("promise 2, behind the last cell", x.dairy(sheet, 0, 60, 1), -13);
            due.is("promise 2, none behind the last cell", x.dairy(sheet, 0, 60, 0), -100);
            due.is("promise 2, none two behind the last cell", x.dairy(sheet, 0, 61, 0), -13);
            due.is("promise 2, none at the first cell", x.dairy(sheet, 0, 0, 0), -100);
            due.is("promise 2, none ahead of the first cell", x.dairy(sheet, 0, -1, 0), -13);
            due.is("promise 2, i and n wrap around", x.dairy(sheet, 0, Integer.MAX_VALUE, 1), -13);
            due.is("promise 2, i and n wrap around", x.dairy(sheet, 0, 1, Integer.MAX_VALUE), -13);
            due.is("promise 2, i and n wrap around to 0", x.dairy(sheet, 0, Integer.MIN_VALUE, Integer.MAX_VALUE), -13);
            due.is("promise 2, what was taken stays", x.many(0), 8);
        }
        RindTalk x = new RindTalk();
        x.sheet(0, 0, 0);
        due.is("promise 2, a row of no cells", x.dairy(0, 0, 0, 0), -100);
        due.is("promise 2, a row of no cells", x.dairy(0, 0, 0, 1), -13);
        due.is("promise 2, a row of no cells", x.dairy(0, 0, 1, 0), -13);
    }

    private static void placesCountFromTheTextsBegin() {
        RindTalk x = new RindTalk();
        Due.write(x, 0, 0, "xxxq2,w15;093yy");
        due.is("promise 2, from i on", x.dairy(0, 0, 3, 10), 1);
        due.is("promise 2, a place of the TEXT", x.dairy(0, 0, 3, 11), -110);
        due.is("promise 2, a place of the TEXT", x.dairy(0, 0, 2, 11), -100);
        due.is("promise 2, as many codes as the TEXT has", x.dairy(0, 0, 3, 9), -109);
    }

    // A TEXT that is not taken leaves all, also where its fault is late
    private static void refusedTextsLeaveAll() {
        Standing standing = new Standing(due);
        String[] texts = {"", "x", "q", "qx", "q5", "q5,", "q5,c4", "q5,c44", "q5,c44x", "q5,c44,m33", "q5,c44;", "q5,c44;09",
            "q5,c44;097x", "q5,c44;097;18", "q5,c44;097;188"};
        int[] places = {0, 0, 1, 1, 2, 3, 5, 6, 6, 10, 7, 9, 10, 13, 13};
        for (int i = 0; i < texts.length; i++) {
            String text = texts[i];
            String name = "promise 2, not taken: " + text;
            standing.stays(name, Standing::sheetsOnly, x -> Due.take(x, text), -100 - places[i], 0);
            standing.stays(name, Standing::some, x -> Due.take(x, text), -100 - places[i], 0);
            standing.stays(name, Standing::full, x -> Due.take(x, text), -100 - places[i], 0);
        }
    }

    // 'A TEXT that is taken makes all anew: no MOVES, nothing is TURNED, no READINGS.'
    private static void takenTextsMakeAllAnew() {
        String[] texts = {"q1,c00;010", FULLEST, "q3,c02,w11,m20;091;152;263;034;147"};
        Standing.Maker[] makers = {RindTalk::new, Standing::some, Standing::full};
        for (String text : texts) {
            String fresh = dairyPart(Due.dairyOf(text));
            for (Standing.Maker maker : makers) {
                RindTalk x = maker.make();
                Due.take(x, text);
                due.is("promise 2, no MOVES", x.many(3), 0);
                due.is("promise 2, no READINGS", x.many(4), 0);
                for (int k = 0; k < x.many(1); k++) {
                    due.is("promise 2, nothing is TURNED", x.ofCheese(k, 3), -9);
                }
                due.same("promise 2, all anew", dairyPart(x), fresh);
            }
        }
        RindTalk x = Standing.some();
        int trace = x.trace();
        Due.take(x, "q1,c00;010");
        due.is("promise 32, TRACE is not of the TEXT", x.trace(), trace);
        due.is("promise 27, nor are SHEETS", x.cell(2, 5, 2), 8);
    }

    // .. the third and the fourth one, too, also where those ahead of it had more of all
    private static void eachOfSeveralTextsMakesAllAnew() {
        String[] texts = {"q5,c01,c11,c21,c31;010;111;212;313", "q2,c01,w10;111;010", "q1,m00;012", "q3,c01,c21,c11;010;215;111"};
        RindTalk x = new RindTalk();
        for (int round = 0; round < 2; round++) {
            for (String text : texts) {
                Due.take(x, text);
                due.is("promise 2, no MOVES, " + text, x.many(3), 0);
                due.is("promise 2, no READINGS, " + text, x.many(4), 0);
                due.is("promise 2, nothing is TURNED, " + text, x.ofCheese(0, 3), -9);
                RindTalk fresh = Due.dairyOf(text);
                for (int k = -1; k < 2; k++) {
                    due.is("promise 13, " + text, x.spare(3, 0, k), fresh.spare(3, 0, k));
                    due.is("promise 14, " + text, x.shelve(k), fresh.shelve(k));
                }
                due.is("promise 15, " + text, x.common(), fresh.common());
                due.is("promise 16, " + text, x.alone(0), fresh.alone(0));
                due.is("promise 8, " + text, x.where(0, 7), fresh.where(0, 7));
                due.is("promise 9, " + text, x.heard(0), fresh.heard(0));
                due.is("promise 20, " + text, x.words(0), 255);
                due.is("promise 5, the first MOVE, " + text, x.move(0, 0, 0), 0);
                due.is("promise 5, the second MOVE, " + text, x.move(0, 5, 0), 1);
                due.is("promise 7, it was never, " + text, x.wall(0, 1), -9);
                due.is("promise 17, the first READING, " + text, x.reading(0, 0, 7), 0);
            }
        }
    }

    private static String dairyPart(RindTalk x) {
        String all = Standing.seen(x);
        return all.substring(all.indexOf(" many"), all.indexOf("; sheet 0"));
    }
}
