import java.io.IOException;
import java.lang.reflect.Constructor;
import java.lang.reflect.Field;
import java.lang.reflect.Member;
import java.lang.reflect.Method;
import java.lang.reflect.Modifier;
import java.nio.file.Files;
import java.nio.file.Path;
import java.util.Arrays;
import java.util.List;
import java.util.Set;
import java.util.TreeSet;
import java.util.regex.Matcher;
import java.util.regex.Pattern;

/** The public face, and the rules of LANGUAGE.md that can be looked up. */
public final class FaceTest {
    private static final Path SOURCE = Path.of("src/main/java/IceInherited.java");
    private static final int METHOD_LINES = 60;
    private static final List<String> FACE = List.of("write/1", "wipe/0", "fault/0", "lay/0",
            "cell/2", "family/2", "cold/1", "pass/1", "saw/1", "sell/2", "undo/0", "behind/3",
            "landless/1", "falls/2", "toll/4", "wedding/4", "straw/4", "split/2", "drill/2",
            "forget/0", "colds/1", "across/0", "shares/3", "winter/3", "keep/0", "back/0",
            "count/1");
    private static final List<String> LEFT_OUT = List.of("->", "::", "\\btry\\b", "\\bcatch\\b",
            "\\bthrow", "\\bfinally\\b", "\\bsynchronized\\b", "\\bassert\\b", "\\bdouble\\b",
            "\\bfloat\\b", "\\bSystem\\.(?!arraycopy)", "\\bMath\\.(?!min\\b|max\\b|floorMod\\b)",
            "\\bArrays\\.(?!fill\\b)", "\\bjava\\.(?!util\\.Arrays;)", "@",
            "\\bObject\\b", "\\bpackage\\b", "boolean\\[\\]\\[\\]");

    public static void main(String[] args) throws IOException {
        constants();
        methods();
        nothingElse();
        nested();
        words();
        lengths();
        Due.end();
    }

    private static void constants() {
        Set<String> names = new TreeSet<>();
        for (Field field : IceInherited.class.getDeclaredFields()) {
            if (!Modifier.isPrivate(field.getModifiers())) {
                names.add(field.getName());
                Due.dueTrue(field + " is a constant", field.getType() == int.class
                        && Modifier.isPublic(field.getModifiers())
                        && Modifier.isStatic(field.getModifiers())
                        && Modifier.isFinal(field.getModifiers()));
            }
        }
        Due.dueTrue("the constants " + names,
                names.equals(new TreeSet<>(List.of("BAD", "NO", "FULL", "NONE"))));
    }

    private static void methods() {
        Set<String> found = new TreeSet<>();
        for (Method method : IceInherited.class.getDeclaredMethods()) {
            if (!Modifier.isPrivate(method.getModifiers()) && !method.isSynthetic()) {
                found.add(method.getName() + "/" + method.getParameterCount());
                boolean ints = method.getReturnType() == int.class;
                for (Class<?> type : method.getParameterTypes()) {
                    ints &= type == int.class;
                }
                Due.dueTrue(method + " is of ints, public, not static", ints
                        && Modifier.isPublic(method.getModifiers())
                        && !Modifier.isStatic(method.getModifiers()));
            }
        }
        Due.dueTrue("the methods " + found, found.equals(new TreeSet<>(FACE)));
    }

    private static void nothingElse() {
        Due.dueTrue("final", Modifier.isFinal(IceInherited.class.getModifiers()));
        Constructor<?>[] all = IceInherited.class.getDeclaredConstructors();
        Due.dueTrue("one constructor", all.length == 1 && all[0].getParameterCount() == 0
                && Modifier.isPublic(all[0].getModifiers()));
        Due.due("interfaces", IceInherited.class.getInterfaces().length, 0);
    }

    private static void nested() {
        Class<?>[] classes = IceInherited.class.getDeclaredClasses();
        Due.dueTrue("some twelve classes", classes.length < 12);
        for (Class<?> type : classes) {
            Due.dueTrue(type + " is static", Modifier.isStatic(type.getModifiers()));
            Due.dueTrue(type + " is not public", !Modifier.isPublic(type.getModifiers()));
            faceNamesAreTheFaces(type.getDeclaredMethods());
            staticIsFinal(type.getDeclaredFields());
        }
        staticIsFinal(IceInherited.class.getDeclaredFields());
        faceNamesAreTheFaces(Arrays.stream(IceInherited.class.getDeclaredMethods())
                .filter(method -> Modifier.isPrivate(method.getModifiers()))
                .toArray(Method[]::new));
    }

    private static void faceNamesAreTheFaces(Member[] members) {
        for (Member member : members) {
            Due.dueTrue(member + " does not bear a name of the face",
                    FACE.stream().noneMatch(face -> face.startsWith(member.getName() + "/")));
        }
    }

    private static void staticIsFinal(Field[] fields) {
        int own = 0;
        for (Field field : fields) {
            boolean isStatic = Modifier.isStatic(field.getModifiers());
            own += isStatic ? 0 : 1;
            Due.dueTrue(field + " is final, if static",
                    !isStatic || Modifier.isFinal(field.getModifiers()));
        }
        Due.dueTrue("some twenty fields", own <= 20);
    }

    private static void words() throws IOException {
        String source = Files.readString(SOURCE).replaceAll("(?s)/\\*.*?\\*/", "")
                .replaceAll("//[^\\n]*", "").replaceAll("\"[^\"\\n]*\"", "\"\"");
        for (String word : LEFT_OUT) {
            Matcher matcher = Pattern.compile(word).matcher(source);
            Due.dueTrue("no " + word + " in the class", !matcher.find());
        }
    }

    private static void lengths() throws IOException {
        List<String> lines = Files.readAllLines(SOURCE);
        int checked = 0;
        for (int i = 0; i < lines.size(); i++) {
            Matcher head = Pattern.compile("( {4}| {8})[a-zA-Z].*\\).*\\{").matcher(lines.get(i));
            if (head.matches()) {
                int end = i + lines.subList(i, lines.size()).indexOf(head.group(1) + "}");
                Due.dueTrue(lines.get(i) + " is short", end > i && end - i < METHOD_LINES);
                checked++;
            }
            Due.dueTrue("line " + (i + 1) + " is short", lines.get(i).length() <= 100);
        }
        Due.dueTrue("methods are found", checked > FACE.size());
    }
}
