import java.lang.reflect.Method;
import java.lang.reflect.Modifier;
import java.util.Arrays;

/**
 * Each call of the face with each choice of numbers about its edges, in several states: no call throws, and each is
 * answered as by the plain model, its fault, too; so of several refusals the first one told is the one that comes.
 */
public final class ArgumentsTest {
    private static final int MIN = Integer.MIN_VALUE, MAX = Integer.MAX_VALUE;
    private static final int[] FEW = {MIN, -10, -9, -2, -1, 0, 1, 2, 3, 4, 5, 7, 8, 9, 20, 21, 60, 61, 255, 256, MAX};
    private static final int[] FEWER = {MIN, -1, 0, 1, 2, 3, 4, 6, 21, MAX};
    private static final int[] FEWEST = {-1, 0, 2, 3, 6, 20, MAX};
    /** The calls that make a state and those that try it stay below the 512 for which an object is used. */
    private static final int TRIED = 150;
    private static final Due due = new Due();

    private final int state;
    private final Method call;
    private final Method same;
    private final int[] values;
    private RindTalk x;
    private PlainModel model;
    private int tried = TRIED;

    private ArgumentsTest(int state, Method call, Method same) {
        this.state = state;
        this.call = call;
        this.same = same;
        int arguments = call.getParameterCount();
        this.values = arguments <= 3 ? FEW : arguments == 4 ? FEWER : FEWEST;
    }

    public static void main(String[] args) throws ReflectiveOperationException {
        for (int state = 0; state < 3; state++) {
            for (Method call : RindTalk.class.getDeclaredMethods()) {
                if (Modifier.isPublic(call.getModifiers())) {
                    Method same = PlainModel.class.getDeclaredMethod(call.getName(), call.getParameterTypes());
                    Object[] arguments = new Object[call.getParameterCount()];
                    new ArgumentsTest(state, call, same).choose(arguments, 0);
                }
            }
        }
        due.end();
    }

    private void choose(Object[] arguments, int at) throws ReflectiveOperationException {
        if (at == arguments.length) {
            compare(arguments);
            return;
        }
        for (int value : values) {
            arguments[at] = value;
            choose(arguments, at + 1);
        }
    }

    private void compare(Object[] arguments) throws ReflectiveOperationException {
        if (tried == TRIED) {
            x = new RindTalk();
            model = new PlainModel();
            bringToState();
            tried = 0;
        }
        tried++;
        String name = "state " + state + ", " + call.getName() + Arrays.toString(arguments);
        long got = ((Number) call.invoke(x, arguments)).longValue();
        due.is(name, got, ((Number) same.invoke(model, arguments)).longValue());
        due.is(name + ", fault()", x.fault(), model.fault());
    }

    private void bringToState() {
        if (state > 0) {
            text(state == 1 ? "q3,c02,w11,m20;091;152;263;034;147" : "q5,c02,w13,m24,c41;091;172;283;394;455;066;177;290");
            for (int m = 0; m < 4 * state - (2 - state); m++) {
                model.move(m % 3, 7 - m, m % 3);
                x.move(m % 3, 7 - m, m % 3);
                model.reading(m % 3, m / 3, m % 3 + 4);
                x.reading(m % 3, m / 3, m % 3 + 4);
            }
            model.wall(1, 4);
            x.wall(1, 4);
        }
        int[][] cells = {{1, -1, 127}, {300, -300, 7, 0}, {0, 2, 1, 3, 2, 8}};
        for (int k = 0; k < cells.length; k++) {
            model.sheet(k, k, cells[k].length);
            x.sheet(k, k, cells[k].length);
            for (int i = 0; i < cells[k].length; i++) {
                model.put(k, i, cells[k][i]);
                x.put(k, i, cells[k][i]);
            }
        }
    }

    private void text(String text) {
        model.sheet(0, 0, text.length());
        x.sheet(0, 0, text.length());
        for (int i = 0; i < text.length(); i++) {
            model.put(0, i, text.charAt(i));
            x.put(0, i, text.charAt(i));
        }
        due.is("state " + state + ", dairy", x.dairy(0, 0, 0, text.length()), model.dairy(0, 0, 0, text.length()));
    }
}
