import java.io.IOException;
import java.lang.reflect.Constructor;
import java.lang.reflect.Field;
import java.lang.reflect.Method;
import java.lang.reflect.Modifier;
import java.nio.file.Files;
import java.nio.file.Path;
import java.util.Set;
import java.util.TreeSet;
import java.util.regex.Pattern;

/** The public face of the document and no other, and the words that LANGUAGE.md rules out. */
public final class FaceTest {
    private static final Check CHECK = new Check("FaceTest");
    private static final Set<String> METHODS = Set.of("put(int,int)", "remove(int)", "get(int)",
            "scatter(int,long)", "undo()", "about(int)", "node(int,int)", "rank(int)", "proof(int,int,int)",
            "item(int,int,int)", "lengths(int,int)", "send(int,int)", "tell(int)", "alter(int,int)", "cut(int)",
            "trust()", "believe(int)", "read(int,int)", "learnt(int,int,int)", "found(int,int,int)",
            "step(int,int)", "follow(int,int)", "former(int)", "judge(int,long)", "keep(int)", "again(int)",
            "differ(int,int)");
    private static final Set<String> CONSTANTS = Set.of("UNKNOWN", "BAD", "LATE", "FULL", "NONE");

    public static void main(String[] args) throws IOException {
        methods();
        fields();
        constructors();
        nestedClasses();
        source();
        CHECK.finish();
    }

    private static void dueSo(String what, boolean so) {
        CHECK.due(what, so ? 1 : 0, 1);
    }

    private static String signature(Method method) {
        StringBuilder text = new StringBuilder(method.getName()).append('(');
        for (Class<?> type : method.getParameterTypes()) {
            text.append(text.charAt(text.length() - 1) == '(' ? "" : ",").append(type.getName());
        }
        return text.append(')').toString();
    }

    private static void methods() {
        Set<String> faces = new TreeSet<>();
        for (Method method : BorderProofs.class.getDeclaredMethods()) {
            if (!Modifier.isPrivate(method.getModifiers())) {
                faces.add(signature(method));
                dueSo(method + " is public, no static one, and answers an int", Modifier.isPublic(method.getModifiers())
                        && !Modifier.isStatic(method.getModifiers()) && method.getReturnType() == int.class);
            }
        }
        dueSo("the methods are " + faces, faces.equals(new TreeSet<>(METHODS)));
    }

    private static void fields() {
        Set<String> seen = new TreeSet<>();
        for (Field field : BorderProofs.class.getDeclaredFields()) {
            if (!Modifier.isPrivate(field.getModifiers())) {
                seen.add(field.getName());
                dueSo(field + " is a constant", field.getType() == int.class
                        && Modifier.toString(field.getModifiers()).equals("public static final"));
            }
        }
        dueSo("the constants are " + seen, seen.equals(new TreeSet<>(CONSTANTS)));
        CHECK.due("UNKNOWN", BorderProofs.UNKNOWN, -1);
        CHECK.due("BAD", BorderProofs.BAD, -2);
        CHECK.due("LATE", BorderProofs.LATE, -3);
        CHECK.due("FULL", BorderProofs.FULL, -4);
        CHECK.due("NONE", BorderProofs.NONE, -9);
    }

    private static void constructors() {
        Constructor<?>[] all = BorderProofs.class.getDeclaredConstructors();
        CHECK.due("constructors", all.length, 1);
        dueSo("it is public, without arguments",
                Modifier.isPublic(all[0].getModifiers()) && all[0].getParameterCount() == 0);
        dueSo("the class is public and final", Modifier.isPublic(BorderProofs.class.getModifiers())
                && Modifier.isFinal(BorderProofs.class.getModifiers()));
    }

    private static void nestedClasses() {
        Class<?>[] nested = BorderProofs.class.getDeclaredClasses();
        dueSo("at most twelve classes", nested.length + 1 <= 12);
        for (Class<?> one : nested) {
            dueSo(one + " is static and not public", Modifier.isStatic(one.getModifiers())
                    && !Modifier.isPublic(one.getModifiers()) && !Modifier.isProtected(one.getModifiers()));
        }
    }

    private static void source() throws IOException {
        String text = Files.readString(Path.of("src/main/java/BorderProofs.java"));
        String code = text.replaceAll("(?s)/\\*.*?\\*/", " ").replaceAll("//[^\n]*", " ");
        for (String word : new String[] {"throw", "throws", "try", "catch", "finally", "synchronized", "assert",
            "package"}) {
            dueSo("no " + word, !Pattern.compile("\\b" + word + "\\b").matcher(code).find());
        }
        dueSo("nothing whose name ends in Exact", !code.contains("Exact("));
        dueSo("no lambda, no method reference", !code.contains("->") && !code.contains("::"));
        for (String line : code.split("\n")) {
            dueSo(line, !line.startsWith("import ") || line.equals("import java.util.Arrays;"));
        }
    }
}
