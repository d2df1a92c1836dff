import java.io.DataInputStream;
import java.io.IOException;
import java.io.InputStream;
import java.lang.reflect.Executable;
import java.lang.reflect.Field;
import java.lang.reflect.Method;
import java.lang.reflect.Modifier;
import java.util.ArrayList;
import java.util.Arrays;
import java.util.List;
import java.util.Set;
import java.util.TreeSet;

/** What the class files of BorderProofs use: no library but what rule 4 of LANGUAGE.md lists, and rules 1, 5, 11. */
public final class LibraryTest {
    private static final Check CHECK = new Check("LibraryTest");
    /** Of what rule 4 allows, what the class has use for. */
    private static final Set<String> ALLOWED = Set.of("java/lang/Object.<init>", "java/lang/Math.max",
            "java/lang/Math.min", "java/lang/Math.floorMod", "java/lang/System.arraycopy", "java/util/Arrays.fill");

    public static void main(String[] args) throws IOException {
        Set<String> publicNames = new TreeSet<>();
        for (Method method : BorderProofs.class.getDeclaredMethods()) {
            if (Modifier.isPublic(method.getModifiers())) {
                publicNames.add(method.getName());
            }
        }
        for (Class<?> one : classes()) {
            uses(one);
            fields(one);
            methods(one, publicNames);
        }
        CHECK.finish();
    }

    private static void dueSo(String what, boolean so) {
        CHECK.due(what, so ? 1 : 0, 1);
    }

    private static List<Class<?>> classes() {
        List<Class<?>> all = new ArrayList<>(Arrays.asList(BorderProofs.class.getDeclaredClasses()));
        all.add(BorderProofs.class);
        return all;
    }

    private static void fields(Class<?> one) {
        int own = 0;
        for (Field field : one.getDeclaredFields()) {
            boolean isStatic = Modifier.isStatic(field.getModifiers());
            own += isStatic ? 0 : 1;
            dueSo(field + " is final if it is static", !isStatic || Modifier.isFinal(field.getModifiers()));
        }
        dueSo(one + " has some twenty fields at most", own <= 20);
    }

    private static void methods(Class<?> one, Set<String> publicNames) {
        List<Executable> all = new ArrayList<>(Arrays.asList(one.getDeclaredMethods()));
        all.addAll(Arrays.asList(one.getDeclaredConstructors()));
        for (Executable method : all) {
            dueSo(method + " takes seven arguments at most", method.getParameterCount() <= 7);
            dueSo(method + " does not bear, if it is private, the name of a public one",
                    !Modifier.isPrivate(method.getModifiers()) || !publicNames.contains(method.getName()));
        }
    }

    // ---- the constants of a class file: all that it calls is told there

    private static void uses(Class<?> one) throws IOException {
        String name = one.getName();
        try (InputStream bytes = one.getResourceAsStream(name + ".class")) {
            dueSo("the class file of " + name, bytes != null);
            DataInputStream file = new DataInputStream(bytes);
            file.readInt();
            file.readInt();
            for (String used : called(file)) {
                dueSo(name + " uses " + used, used.startsWith("BorderProofs") || ALLOWED.contains(used));
            }
        }
    }

    private static List<String> called(DataInputStream file) throws IOException {
        int many = file.readUnsignedShort();
        String[] texts = new String[many];
        int[] tags = new int[many];
        int[][] links = new int[many][2];
        for (int i = 1; i < many; i++) {
            tags[i] = file.readUnsignedByte();
            switch (tags[i]) {
                case 1: texts[i] = file.readUTF(); break;
                case 3: case 4: file.readInt(); break;
                case 5: case 6: file.readLong(); i++; break;
                case 7: case 8: case 16: case 19: case 20: links[i][0] = file.readUnsignedShort(); break;
                case 15: file.readUnsignedByte(); file.readUnsignedShort(); break;
                default:
                    links[i][0] = file.readUnsignedShort();
                    links[i][1] = file.readUnsignedShort();
            }
        }
        List<String> called = new ArrayList<>();
        for (int i = 1; i < many; i++) {
            if (tags[i] >= 9 && tags[i] <= 11) {
                called.add(texts[links[links[i][0]][0]] + "." + texts[links[links[i][1]][0]]);
            } else if (tags[i] >= 15 && tags[i] <= 18) {
                // a lambda, a method reference, texts joined by +, or what a record makes for itself
                called.add("a call that is made when it runs");
            }
        }
        return called;
    }
}
