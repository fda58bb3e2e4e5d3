import java.util.Random;

/** Runs of chosen calls, the same ones each time, on the class and on the plain model side by side. */
public final class ModelTest {
    /** The longest step (a text) makes at most this many calls, and an object is used for at most 512. */
    private static final int RUNS = 8000, STEP = 120, CALLS = 512 - STEP;
    private static final int[] ODD_ONES = {Integer.MIN_VALUE, -10, -9, -2, -1, 8, 9, 10, 60, 61, 255, 256, Integer.MAX_VALUE};

    private final Due due;
    private final Random random;
    private final RindTalk x = new RindTalk();
    private final PlainModel model = new PlainModel();
    private int calls = 0;

    private ModelTest(Due due, int seed) {
        this.due = due;
        this.random = new Random(seed);
    }

    public static void main(String[] args) {
        Due due = new Due();
        for (int seed = 0; seed < RUNS && !due.anyWrong(); seed++) {
            new ModelTest(due, seed).run();
        }
        due.end();
    }

    private void run() {
        if (random.nextInt(10) != 0) {
            takeText();
        }
        while (calls < CALLS && !due.anyWrong()) {
            one(random.nextInt(100));
        }
    }

    private void is(String call, long got, long want) {
        calls++;
        due.is(call, got, want);
        if (random.nextInt(4) == 0) {
            calls++;
            due.is("fault behind " + call, x.fault(), model.fault());
        }
        if (random.nextInt(8) == 0) {
            calls++;
            due.is("trace behind " + call, x.trace(), model.trace());
        }
    }

    /** 0 .. high, now and then something else. */
    private int upTo(int high) {
        return random.nextInt(25) == 0 ? ODD_ONES[random.nextInt(ODD_ONES.length)] : random.nextInt(high + 1);
    }

    private int cheese() {
        return upTo(3);
    }

    private String text() {
        int cellars = 1 + random.nextInt(5);
        StringBuilder text = new StringBuilder("q" + cellars);
        int thickest = 1 + random.nextInt(10);
        for (int k = 1 + random.nextInt(4); k > 0; k--) {
            text.append(',').append("cwm".charAt(random.nextInt(3)));
            text.append(random.nextInt(cellars)).append(random.nextInt(thickest));
        }
        int words = 1 + random.nextInt(8);
        for (int t = random.nextInt(3) == 0 ? 8 : 1 + random.nextInt(8); t > 0; t--) {
            text.append(';').append(random.nextInt(cellars)).append(1 + random.nextInt(9)).append(random.nextInt(words));
        }
        return text.toString();
    }

    /** A text with a code changed, left out or brought in, or with more cheeses or talks than there may be. */
    private String spoiled(String text) {
        int at = random.nextInt(text.length());
        String codes = "q,;cwm0123456789x/:";
        char code = codes.charAt(random.nextInt(codes.length()));
        switch (random.nextInt(6)) {
            case 0: return text.substring(0, at);
            case 1: return text.substring(0, at) + text.substring(at + 1);
            case 2: return text.substring(0, at) + code + text.substring(at);
            case 3: return text + ";010";
            case 4: return text.replaceFirst(";", ",c00,c00;");
            default: return text.substring(0, at) + code + text.substring(at + 1);
        }
    }

    private void takeText() {
        String text = random.nextInt(4) == 0 ? spoiled(text()) : text();
        int ahead = random.nextInt(4) == 0 ? random.nextInt(4) : 0;
        int n = Math.min(60, ahead + text.length());
        int sheet = random.nextInt(4);
        int lane = random.nextInt(3);
        is("sheet", x.sheet(sheet, lane, n), model.sheet(sheet, lane, n));
        for (int i = ahead; i < n; i++) {
            int code = text.charAt(i - ahead);
            // What is cut to its lane is a code all the same.
            code += random.nextInt(200) == 0 ? 1 << 8 * (1 + random.nextInt(2)) : 0;
            is("put", x.put(sheet, i, code), model.put(sheet, i, code));
        }
        is("dairy of " + text, x.dairy(sheet, lane, ahead, n - ahead), model.dairy(sheet, lane, ahead, n - ahead));
    }

    private void cutPairs() {
        int sheet = random.nextInt(4);
        int lane = random.nextInt(3);
        int pairs = random.nextInt(7);
        is("sheet", x.sheet(sheet, lane, 2 * pairs + 1), model.sheet(sheet, lane, 2 * pairs + 1));
        for (int p = 0; p < pairs; p++) {
            int k = random.nextInt(2 + p) < 2 ? random.nextInt(Math.max(1, model.many(1))) : cheese();
            int depth = random.nextInt(3) == 0 ? upTo(8) : random.nextInt(3);
            is("put", x.put(sheet, 2 * p, k), model.put(sheet, 2 * p, k));
            is("put", x.put(sheet, 2 * p + 1, depth), model.put(sheet, 2 * p + 1, depth));
        }
        for (int what = 0; what < 2; what++) {
            is("cuts", x.cuts(sheet, lane, 0, pairs, what), model.cuts(sheet, lane, 0, pairs, what));
        }
        int n = upTo(pairs);
        int i = upTo(2);
        int otherLane = upTo(2);
        int what = upTo(1);
        is("cuts", x.cuts(sheet, otherLane, i, n, what), model.cuts(sheet, otherLane, i, n, what));
    }

    /** Mostly what is there, so that the sets that follow are not all empty. */
    private void read() {
        int k = cheese();
        int layer = random.nextInt(3) == 0 ? upTo(7) : random.nextInt(4);
        int t = model.layer(k, layer);
        int word = t >= 0 ? model.ofTalk(t, 2) : RindTalk.NONE;
        if (random.nextInt(8) == 0) {
            word = upTo(7);
        }
        is("reading", x.reading(k, layer, word), model.reading(k, layer, word));
    }

    private void one(int choice) {
        if (choice < 1) {
            takeText();
        } else if (choice < 3) {
            cutPairs();
        } else if (choice < 10) {
            read();
        } else if (choice < 40) {
            change(choice % 8);
        } else if (choice < 75) {
            ask(choice % 9);
        } else {
            guess(choice % 13);
        }
    }

    private void change(int choice) {
        int k = cheese();
        int day = upTo(7);
        int v = upTo(4);
        int n = random.nextInt(5) == 0 ? upTo(9) : upTo(1);
        int lane = upTo(2);
        int cell = upTo(12);
        int value = random.nextInt(3) == 0 ? random.nextInt() : upTo(200);
        switch (choice) {
            case 0: is("move", x.move(k, day, v), model.move(k, day, v)); break;
            case 1: is("undo", x.undo(n), model.undo(n)); break;
            case 2:
                day = random.nextInt(3) == 0 ? day : RindTalk.NONE;
                is("wall", x.wall(k, day), model.wall(k, day));
                break;
            case 3: is("back", x.back(n), model.back(n)); break;
            case 4:
                int length = random.nextInt(8) == 0 ? random.nextInt(80) - 10 : cell;
                is("sheet", x.sheet(k, lane, length), model.sheet(k, lane, length));
                break;
            case 5: is("put", x.put(k, cell, value), model.put(k, cell, value)); break;
            case 6:
                int other = cheese();
                int j = upTo(9);
                is("copy", x.copy(k, cell, other, j, n), model.copy(k, cell, other, j, n));
                break;
            default:
                if (random.nextInt(4) == 0) {
                    is("lose", x.lose(k), model.lose(k));
                }
                is("dairy", x.dairy(k, lane, cell, value), model.dairy(k, lane, cell, value));
                break;
        }
    }

    private void ask(int choice) {
        int k = cheese();
        int v = upTo(8);
        int lane = upTo(2);
        switch (choice) {
            case 0: is("ofCheese", x.ofCheese(k, v / 2), model.ofCheese(k, v / 2)); break;
            case 1: is("ofTalk", x.ofTalk(v, lane), model.ofTalk(v, lane)); break;
            case 2: is("where", x.where(k, v), model.where(k, v)); break;
            case 3: is("heard", x.heard(k), model.heard(k)); break;
            case 4: is("layer", x.layer(k, v), model.layer(k, v)); break;
            case 5: is("deep", x.deep(k, v), model.deep(k, v)); break;
            case 6: is("cell", x.cell(k, v, lane), model.cell(k, v, lane)); break;
            case 7: is("as", x.as(k, lane), model.as(k, lane)); break;
            default: is("many", x.many(v), model.many(v)); break;
        }
    }

    private void guess(int choice) {
        int k = random.nextInt(20) == 0 ? upTo(3) : random.nextInt(6) - 1;
        int v = upTo(7);
        switch (choice) {
            case 0: case 1:
                int words = random.nextInt(256) & random.nextInt(256) & random.nextInt(256);
                int others = random.nextInt(256) & random.nextInt(256) & ~words;
                words = random.nextInt(25) == 0 ? upTo(255) : words;
                others = random.nextInt(3) == 0 ? 0 : random.nextInt(25) == 0 ? upTo(255) : others;
                is("spare", x.spare(words, others, k), model.spare(words, others, k));
                break;
            case 2: is("shelve", x.shelve(k), model.shelve(k)); break;
            case 3: is("common", x.common(), model.common()); break;
            case 4: is("alone", x.alone(k), model.alone(k)); break;
            case 5: case 6: is("louds", x.louds(v), model.louds(v)); break;
            case 7: is("words", x.words(v), model.words(v)); break;
            case 8: is("kinds", x.kinds(k), model.kinds(k)); break;
            case 9: is("lay", x.lay(k), model.lay(k)); break;
            case 10:
                int which = upTo(1);
                is("odds", x.odds(k, v, which), model.odds(k, v, which));
                break;
            case 11: is("tell", x.tell(k), model.tell(k)); break;
            default: is("tap", x.tap(k), model.tap(k)); break;
        }
    }
}
