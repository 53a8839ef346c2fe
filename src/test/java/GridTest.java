import java.lang.reflect.InvocationTargetException;
import java.lang.reflect.Method;
import java.util.Arrays;

/**
 * Every call with every choice of edge numbers for its arguments, on objects in several states, held
 * against the model's answers: no call throws, whatever it is given.
 */
public final class GridTest {
    private static final int[] EDGES = {Integer.MIN_VALUE, -1, 0, 1, 2, 3, 4, 20, 21, Integer.MAX_VALUE};
    private static final int[] MORE_EDGES = {Integer.MIN_VALUE, Integer.MIN_VALUE + 1, -65536, -129, -10, -9, -4,
        -3, -2, -1, 0, 1, 2, 3, 4, 5, 6, 7, 8, 9, 10, 20, 21, 31, 32, 42, 49, 50, 59, 60, 61, 62, 63, 64, 65, 99,
        100, 127, 128, 255, 256, 65536, 1 << 30, Integer.MAX_VALUE - 1, Integer.MAX_VALUE};
    private static final int MOST_CALLS = 400;

    private final int state;
    private TrickHouse x;
    private Model model;
    private int calls;

    private GridTest(int state) {
        this.state = state;
    }

    public static void main(String[] args) throws ReflectiveOperationException {
        for (int state = 0; state < 4; state++) {
            for (Method method : TrickHouse.class.getMethods()) {
                if (method.getDeclaringClass() == TrickHouse.class) {
                    new GridTest(state).all(method);
                }
            }
        }
        Due.end();
    }

    private void all(Method method) throws ReflectiveOperationException {
        Method other = Model.class.getDeclaredMethod(method.getName(), method.getParameterTypes());
        int[] edges = method.getParameterCount() < 3 ? MORE_EDGES : EDGES;
        int[] choice = new int[method.getParameterCount()];
        Object[] arguments = new Object[choice.length];
        boolean more = true;
        while (more) {
            for (int k = 0; k < choice.length; k++) {
                arguments[k] = edges[choice[k]];
            }
            one(method, other, arguments);
            more = next(choice, edges.length);
        }
    }

    private static boolean next(int[] choice, int edges) {
        for (int k = choice.length - 1; k >= 0; k--) {
            choice[k]++;
            if (choice[k] < edges) {
                return true;
            }
            choice[k] = 0;
        }
        return false;
    }

    private void one(Method method, Method other, Object[] arguments) throws ReflectiveOperationException {
        if (calls == 0 || calls > MOST_CALLS) {
            make();
        }
        calls += 2;
        String told = method.getName() + Arrays.toString(arguments) + " in state " + state;
        try {
            long got = ((Number) method.invoke(x, arguments)).longValue();
            Due.due(told, got, ((Number) other.invoke(model, arguments)).longValue());
        } catch (InvocationTargetException e) {
            Due.due(told + " threw " + e.getCause(), 1, 0);
        }
        Due.due("fault() behind " + told, x.fault(), model.fault());
    }

    private void row(int k, int lane, int... cells) {
        x.sheet(k, lane, cells.length);
        model.sheet(k, lane, cells.length);
        for (int i = 0; i < cells.length; i++) {
            x.put(k, i, cells[i]);
            model.put(k, i, cells[i]);
        }
    }

    private void city(String text) {
        row(0, 0, Due.codes(text));
        Due.due("city of " + text, x.city(0, 0, 0, text.length()), model.city(0, 0, 0, text.length()));
    }

    private void make() {
        x = new TrickHouse();
        model = new Model();
        calls = 100;
        switch (state) {
            case 0: break;
            case 1: city("v00/1;t1000"); row(2, 1); break;
            case 2: city(Due.SIX); rows(); present(5, 0, 3, 2); break;
            default: city("v77/9999;t9100;b9201;p1302;t1403;b1504;p1605"); rows(); present(0, 5, 4, 3, 2, 1); break;
        }
    }

    private void rows() {
        row(1, 2, 0, 1, 1, 1, 0, 0, 1, 0, 2, 0, 2, 1, 2, 0, 2, 1, 2, 0, 2, 1, 2, 0, 2, 1, 2, 0, 2, 1, 2, 0, 2, 1,
                2, 0, 2, 1, 2, 0, 2, 1, 0, 1);
        row(2, 2, 5, 4, 3, 2, 1, 0);
    }

    private void present(int... articles) {
        x.miss(5, 0);
        model.miss(5, 0);
        for (int a : articles) {
            Due.due("send(" + a + ")", x.send(a), model.send(a));
        }
        for (int corner = 0; corner < 3; corner++) {
            int heard = model.heard(corner);
            Due.due("reading", x.reading(corner, heard), model.reading(corner, heard));
        }
    }
}
