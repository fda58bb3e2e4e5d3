/**
 * Objects that were brought to the same state by the same calls, and all that can be seen of such a state. The calls
 * that make one (some 110) and those that look at it (some 310) stay below the 512 for which an object is used.
 */
final class Standing {
    interface Maker {
        RindTalk make();
    }

    interface Call {
        long on(RindTalk x);
    }

    private final Due due;

    Standing(Due due) {
        this.due = due;
    }

    /** Rows of all lanes in sheets 0, 1, 2, nothing in sheet 3; no dairy. */
    static RindTalk sheetsOnly() {
        RindTalk x = new RindTalk();
        rows(x);
        return x;
    }

    private static void rows(RindTalk x) {
        int[][] cells = {{1, -1, 127, -128, 5}, {300, -300, 7, 0}, {0, 2, 1, 3, 2, 8}};
        for (int k = 0; k < cells.length; k++) {
            x.sheet(k, k, cells[k].length);
            for (int i = 0; i < cells[k].length; i++) {
                x.put(k, i, cells[k][i]);
            }
        }
    }

    /** Three cheeses, three cellars, five talks, and of all else some, so that each number ends below its most. */
    static RindTalk some() {
        RindTalk x = Due.dairyOf("q3,c02,w11,m20;091;152;263;034;147");
        x.move(0, 3, 2);
        x.move(1, 2, 0);
        x.move(0, 3, 1);
        x.wall(1, 4);
        x.reading(0, 0, 7);
        x.reading(2, 2, -9);
        x.tell(2);
        rows(x);
        return x;
    }

    /** As many of all things as there can be. */
    static RindTalk full() {
        RindTalk x = Due.dairyOf("q5,c02,w13,m24,c41;091;172;283;394;455;066;177;290");
        for (int m = 0; m < 8; m++) {
            x.move(m % 4, 7 - m, m % 5);
        }
        for (int k = 0; k < 4; k++) {
            x.wall(k, 7 - k);
        }
        for (int r = 0; r < 8; r++) {
            int t = x.layer(r % 4, r / 4);
            x.reading(r % 4, r / 4, t == RindTalk.NONE ? t : x.ofTalk(t, 2));
        }
        x.tap(3);
        rows(x);
        return x;
    }

    /** Of a call that names faults: its answer, its fault (0: refused, or come to none), all else as if it had not been. */
    void stays(String name, Maker maker, Call call, long answer, int fault) {
        // A fault of before that is another than the one due.
        hold(name, maker, call, answer, fault == 4 ? 1 : 4, fault);
    }

    /** Of a call that names no faults: its answer, and all as if it had not been, the fault of before, too. */
    void staysAll(String name, Maker maker, Call call, long answer) {
        hold(name, maker, call, answer, 4, 4);
    }

    private void hold(String name, Maker maker, Call call, long answer, int before, int after) {
        RindTalk asked = maker.make();
        due.is(name + " (a fault ahead of it)", before == 1 ? asked.put(3, 0, 0) : asked.sheet(0, 0, -1), -10 - before);
        due.is(name, call.on(asked), answer);
        due.is(name + ", then fault()", asked.fault(), after);
        due.same(name + ", then what stays", seen(asked), seen(maker.make()));
    }

    /** All that can be seen of an object, but its fault; moves and readings are taken back for it one by one. */
    static String seen(RindTalk x) {
        StringBuilder text = new StringBuilder();
        text.append("trace ").append(x.trace()).append(" many");
        for (int what = 0; what < 5; what++) {
            text.append(' ').append(x.many(what));
        }
        for (int k = 0; k < x.many(1); k++) {
            text.append("; cheese ").append(k);
            for (int what = 0; what < 4; what++) {
                text.append(' ').append(x.ofCheese(k, what));
            }
            for (int day = 0; day < 8; day++) {
                text.append(' ').append(x.where(k, day));
            }
            text.append(' ').append(x.heard(k)).append(' ').append(x.kinds(k)).append(' ').append(x.lay(k));
        }
        for (int t = 0; t < x.many(0); t++) {
            text.append("; talk ").append(t);
            for (int what = 0; what < 3; what++) {
                text.append(' ').append(x.ofTalk(t, what));
            }
            text.append(' ').append(x.louds(t)).append(' ').append(x.words(t));
        }
        for (int k = 0; k < 4; k++) {
            text.append("; sheet ").append(k).append(sheet(x, k));
        }
        return text.append(slips(x)).toString();
    }

    private static String sheet(RindTalk x, int k) {
        for (int lane = 0; lane < 3; lane++) {
            StringBuilder cells = new StringBuilder(" lane " + lane);
            for (int i = 0; i < 61; i++) {
                long cell = x.cell(k, i, lane);
                if (cell == RindTalk.LOST) {
                    break;
                }
                cells.append(' ').append(cell);
            }
            if (x.fault() == 3) {
                return cells.toString();
            }
        }
        return " nothing";
    }

    /** Readings first: with a move taken back they would not be so any more, and then tell nothing. */
    private static String slips(RindTalk x) {
        StringBuilder text = new StringBuilder("; readings");
        int talks = x.many(0);
        for (int r = x.many(4); r > 0; r--) {
            text.append(' ').append(x.back(1));
            for (int t = 0; t < talks; t++) {
                text.append(' ').append(x.words(t));
            }
        }
        text.append("; moves");
        int cheeses = x.many(1);
        for (int m = x.many(3); m > 0; m--) {
            text.append(' ').append(x.undo(1));
            for (int k = 0; k < cheeses; k++) {
                text.append(' ').append(x.where(k, 3)).append(x.where(k, 7));
            }
        }
        return text.toString();
    }
}
