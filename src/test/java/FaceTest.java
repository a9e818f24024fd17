import java.io.IOException;
import java.lang.reflect.Constructor;
import java.lang.reflect.Field;
import java.lang.reflect.Method;
import java.lang.reflect.Modifier;
import java.nio.file.Files;
import java.nio.file.Path;
import java.util.Set;
import java.util.TreeSet;

/** The face of the class is the document's, and its text keeps to the rules of LANGUAGE.md that a text shows. */
public final class FaceTest {
    private static final Set<String> FACE = Set.of("put(int,int)", "lamp(int,int,int)", "takeLamp(int)",
            "fill(int,int)", "set(int,int)", "step(int)", "forget()", "append(int)", "clear()", "fault(int)",
            "load()", "walk()", "cell(int,int)", "sees(int,int,int)", "stops(int,int)", "lampOf(int,int)",
            "count(int)", "litShare()", "exposure(int,int)", "way(int,int)", "ifPut(int,int,int)",
            "bestLamp(int)", "darkIn()", "undo()", "save()", "restore()");
    private static final Set<String> CONSTANTS = Set.of("INVALID_ARGUMENT", "NOT_POSSIBLE", "LIMIT_REACHED",
            "NOT_FOUND", "DIM", "TORCH");
    private static final String[] RULED_OUT = {"import ", "package ", "throw", "try", "catch", "finally",
        "synchronized", "assert", "->", "::", "instanceof", "protected ", "static {", ".toString", ".hashCode",
        ".equals", "System.nanoTime", "System.currentTimeMillis", "Exact("};

    public static void main(String[] args) throws IOException {
        Due due = new Due("FaceTest");
        face(due);
        insides(due);
        text(due, Files.readString(Path.of(args[0])));
        due.close();
    }

    private static String told(Method method) {
        StringBuilder told = new StringBuilder(method.getName()).append('(');
        for (Class<?> type : method.getParameterTypes()) {
            told.append(told.charAt(told.length() - 1) == '(' ? "" : ",").append(type.getName());
        }
        return told.append(')').toString();
    }

    private static boolean isNoFaceName(Method method) {
        return FACE.stream().noneMatch(told -> told.startsWith(method.getName() + "("));
    }

    private static void face(Due due) {
        due.is("modifiers", PillarLight.class.getModifiers(), Modifier.PUBLIC | Modifier.FINAL);
        Set<String> methods = new TreeSet<>();
        for (Method method : PillarLight.class.getDeclaredMethods()) {
            if (!Modifier.isPrivate(method.getModifiers())) {
                methods.add(told(method));
                String type = method.getName().equals("litShare") ? "double" : "int";
                due.holds(method + " is as told", method.getReturnType().getName().equals(type)
                        && method.getModifiers() == Modifier.PUBLIC);
            } else {
                due.holds(method + " has no public one's name", isNoFaceName(method));
            }
        }
        due.holds("the methods are the document's: " + methods, methods.equals(FACE));
        Set<String> constants = new TreeSet<>();
        for (Field field : PillarLight.class.getDeclaredFields()) {
            if (!Modifier.isPrivate(field.getModifiers())) {
                constants.add(field.getName());
                due.is("modifiers of " + field, field.getModifiers(),
                        Modifier.PUBLIC | Modifier.STATIC | Modifier.FINAL);
            }
        }
        due.holds("the constants are the document's: " + constants, constants.equals(CONSTANTS));
        Constructor<?>[] constructors = PillarLight.class.getDeclaredConstructors();
        due.is("constructors", constructors.length, 1);
        due.is("its modifiers", constructors[0].getModifiers(), Modifier.PUBLIC);
        due.is("its parameters", constructors[0].getParameterCount(), 0);
    }

    private static void insides(Due due) {
        Class<?>[] insides = PillarLight.class.getDeclaredClasses();
        due.holds("at most twelve classes", insides.length < 12);
        for (Class<?> inside : insides) {
            due.holds(inside + " is static and not public", Modifier.isStatic(inside.getModifiers())
                    && !Modifier.isPublic(inside.getModifiers()) && !Modifier.isProtected(inside.getModifiers()));
            due.holds("some twenty fields in " + inside, inside.getDeclaredFields().length <= 20);
            for (Field field : inside.getDeclaredFields()) {
                due.holds(field + " is no state of the class", !Modifier.isStatic(field.getModifiers())
                        || Modifier.isFinal(field.getModifiers()));
            }
            for (Method method : inside.getDeclaredMethods()) {
                due.holds(method + " has at most seven parameters", method.getParameterCount() <= 7);
                due.holds(method + " has no public one's name", isNoFaceName(method));
            }
        }
    }

    private static void text(Due due, String text) {
        // Words of comments are not meant.
        String code = text.replaceAll("(?s)/\\*.*?\\*/", "").replaceAll("//[^\n]*", "");
        for (String word : RULED_OUT) {
            due.holds("no " + word, !code.contains(word));
        }
        due.holds("plain signs", text.chars().allMatch(sign -> sign == '\n' || sign >= 32 && sign < 127));
    }
}
