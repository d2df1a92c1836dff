import java.lang.reflect.Method;
import java.lang.reflect.Modifier;
import java.util.ArrayList;
import java.util.Arrays;
import java.util.List;

/** Every call with the least, the greatest and the odd arguments, in all ways to mix them: as the model, and none throws. */
public final class ExtremesTest {
    private static final Check CHECK = new Check("ExtremesTest");
    private static final int[] INTS = {Integer.MIN_VALUE, -10100, -10099, -9, -1, 0, 1, 40, 99, 100, Integer.MAX_VALUE};
    private static final long[] LONGS = {Long.MIN_VALUE, Integer.MIN_VALUE, -1, 0, 1, 24000, 99999, 100000, 9999999999L,
        10000000000L, 140005400324000L, 999999999999999L, 1000000000000000L, Long.MAX_VALUE};
    /** So few that the object is not used for more than 512 calls. */
    private static final int CALLS = 200;

    /** Nothing; something of all; the most of all. */
    private static final String[][] BEFORE = {
        {},
        {"put 0 0", "put 40 1", "put 99 99", "keep 1", "put 1 5", "trust", "believe 1", "trust", "send 0 2"},
        most(),
    };

    public static void main(String[] args) throws ReflectiveOperationException {
        for (String[] before : BEFORE) {
            for (Method method : BorderProofs.class.getDeclaredMethods()) {
                if (Modifier.isPublic(method.getModifiers())) {
                    all(before, method, rows(method.getParameterTypes()));
                }
            }
        }
        CHECK.finish();
    }

    private static String[] most() {
        List<String> calls = new ArrayList<>();
        for (int key = 60; key < 100; key++) {
            calls.add("put " + key + " " + key);
        }
        calls.add("keep 0");
        for (int digest = 1; digest <= 9; digest++) {
            calls.add("believe " + digest);
        }
        calls.add("put 99 0");
        calls.add("keep 1");
        for (int many = 0; many < 100; many++) {
            calls.add("tell " + (many == 0 ? -4101 : 0));
        }
        return calls.toArray(new String[0]);
    }

    /** All rows of arguments. */
    private static List<Object[]> rows(Class<?>[] types) {
        List<Object[]> rows = new ArrayList<>();
        rows.add(new Object[0]);
        for (Class<?> type : types) {
            List<Object[]> longer = new ArrayList<>();
            for (Object[] row : rows) {
                for (Object one : type == int.class ? ints() : longs()) {
                    Object[] more = Arrays.copyOf(row, row.length + 1);
                    more[row.length] = one;
                    longer.add(more);
                }
            }
            rows = longer;
        }
        return rows;
    }

    private static List<Object> ints() {
        List<Object> all = new ArrayList<>();
        for (int one : INTS) {
            all.add(one);
        }
        return all;
    }

    private static List<Object> longs() {
        List<Object> all = new ArrayList<>();
        for (long one : LONGS) {
            all.add(one);
        }
        return all;
    }

    private static void all(String[] before, Method method, List<Object[]> rows) throws ReflectiveOperationException {
        Method same = Model.class.getDeclaredMethod(method.getName(), method.getParameterTypes());
        BorderProofs real = null;
        Model model = null;
        for (int place = 0; place < rows.size(); place++) {
            if (place % CALLS == 0) {
                real = new BorderProofs();
                model = new Model();
                for (String call : before) {
                    toBoth(real, model, call);
                }
            }
            Object[] row = rows.get(place);
            CHECK.due(method.getName() + Arrays.toString(row), (int) method.invoke(real, row),
                    (int) same.invoke(model, row));
        }
    }

    private static void toBoth(BorderProofs real, Model model, String call) throws ReflectiveOperationException {
        String[] words = call.split(" ");
        Object[] row = new Object[words.length - 1];
        Class<?>[] types = new Class<?>[row.length];
        for (int place = 0; place < row.length; place++) {
            row[place] = Integer.parseInt(words[place + 1]);
            types[place] = int.class;
        }
        CHECK.due(call, (int) BorderProofs.class.getMethod(words[0], types).invoke(real, row),
                (int) Model.class.getDeclaredMethod(words[0], types).invoke(model, row));
    }
}
