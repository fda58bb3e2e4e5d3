/** Counts answers that are not the ones that are due, and makes dairies for the tests. */
final class Due {
    private int wrong = 0;
    private int asked = 0;

    void is(String call, long got, long want) {
        asked++;
        if (got != want) {
            wrong++;
            if (wrong <= 40) {
                System.out.println(call + " answered " + got + ", due is " + want);
            }
        }
    }

    void same(String what, String got, String want) {
        asked++;
        if (!got.equals(want)) {
            wrong++;
            if (wrong <= 40) {
                System.out.println(what + ":\n  is     " + got + "\n  due is " + want);
            }
        }
    }

    /** Prints the count and ends with exit code 1 if an answer was wrong. */
    void end() {
        System.out.println(asked + " answers looked at, " + wrong + " not as due");
        if (wrong != 0) {
            System.exit(1);
        }
    }

    boolean anyWrong() {
        return wrong != 0;
    }

    /** A new object with a dairy by a text, taken from sheet 3, which then has nothing again. */
    static RindTalk dairyOf(String text) {
        RindTalk x = new RindTalk();
        int answer = take(x, text);
        if (answer < 1) {
            System.out.println("the text " + text + " was not taken: " + answer);
            System.exit(1);
        }
        return x;
    }

    static int take(RindTalk x, String text) {
        write(x, 3, 0, text);
        int answer = x.dairy(3, 0, 0, text.length());
        x.lose(3);
        return answer;
    }

    /** A new row of a lane with the codes of a text. */
    static void write(RindTalk x, int sheet, int lane, String text) {
        x.sheet(sheet, lane, text.length());
        for (int i = 0; i < text.length(); i++) {
            x.put(sheet, i, text.charAt(i));
        }
    }

    /** A new row of ints. */
    static void row(RindTalk x, int sheet, int... cells) {
        x.sheet(sheet, 2, cells.length);
        for (int i = 0; i < cells.length; i++) {
            x.put(sheet, i, cells[i]);
        }
    }
}
