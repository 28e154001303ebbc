import java.io.IOException;
import java.lang.reflect.Constructor;
import java.lang.reflect.Field;
import java.lang.reflect.Method;
import java.lang.reflect.Modifier;
import java.nio.file.Files;
import java.nio.file.Path;
import java.util.Set;
import java.util.TreeSet;
import java.util.regex.Matcher;
import java.util.regex.Pattern;

/** The public face is the document's and no more, and the source keeps to the words that LANGUAGE.md leaves. */
public final class FaceTest {
    private static final Set<String> METHODS = Set.of("class0/0", "thing/0", "axiom/3", "remove/1", "fuel/1", "known/2",
            "ask/2", "run/0", "parent/2", "child/2", "equal/2", "empty/1", "open/1", "put/2", "type/2", "trace/3", "count/1");
    private static final Set<String> CONSTANTS =
            Set.of("UNKNOWN=-1", "RANGE=-2", "NOT_NOW=-3", "FULL=-4", "CLASH=-5", "NONE=-6");
    private static final Pattern FORBIDDEN = Pattern.compile("\\b(throw|throws|try|catch|synchronized|assert|native|volatile"
            + "|transient|Object|hashCode|toString|equals|Thread|Random|nanoTime|currentTimeMillis|import)\\b|->|::|Exact\\(");

    private static int wrong = 0;

    private static void fault(String text) {
        wrong++;
        System.out.println(text);
    }

    private static void same(String what, Set<String> got, Set<String> want) {
        if (!got.equals(want)) {
            fault(what + " are " + new TreeSet<>(got) + ", due are " + new TreeSet<>(want));
        }
    }

    private static void checkMembers() throws IllegalAccessException {
        Class<?> face = ClassifySort.class;
        Set<String> methods = new TreeSet<>();
        Set<String> hidden = new TreeSet<>();
        for (Method m : face.getDeclaredMethods()) {
            if (Modifier.isPrivate(m.getModifiers())) {
                hidden.add(m.getName());
                continue;
            }
            methods.add(m.getName() + "/" + m.getParameterCount());
            if (!Modifier.isPublic(m.getModifiers()) || m.getReturnType() != int.class) {
                fault(m + " is not public or does not answer an int");
            }
            for (Class<?> type : m.getParameterTypes()) {
                if (type != int.class) {
                    fault(m + " takes something else than int");
                }
            }
        }
        same("methods", methods, METHODS);
        for (String name : METHODS) {
            if (hidden.contains(name.substring(0, name.indexOf('/')))) {
                fault("a private method bears the name " + name);
            }
        }
        Set<String> constants = new TreeSet<>();
        for (Field f : face.getDeclaredFields()) {
            if (!Modifier.isPrivate(f.getModifiers())) {
                constants.add(f.getName() + "=" + f.get(null));
            }
        }
        same("constants", constants, CONSTANTS);
        Constructor<?>[] made = face.getDeclaredConstructors();
        if (made.length != 1 || made[0].getParameterCount() != 0 || !Modifier.isPublic(made[0].getModifiers())) {
            fault("the constructor is not the document's");
        }
        if (!Modifier.isPublic(face.getModifiers()) || !Modifier.isFinal(face.getModifiers())) {
            fault("the class is not public and final");
        }
        for (Class<?> inside : face.getDeclaredClasses()) {
            if (!Modifier.isStatic(inside.getModifiers())) {
                fault(inside + " is not static");
            }
        }
    }

    /** The bounds of LANGUAGE.md, rules 5 and 11. */
    private static void checkBounds() {
        Class<?>[] inside = ClassifySort.class.getDeclaredClasses();
        if (inside.length + 1 > 12) {
            fault("more than twelve classes");
        }
        checkBoundsOf(ClassifySort.class);
        for (Class<?> c : inside) {
            checkBoundsOf(c);
        }
    }

    private static void checkBoundsOf(Class<?> c) {
        int fields = 0;
        for (Field f : c.getDeclaredFields()) {
            if (!Modifier.isStatic(f.getModifiers())) {
                fields++;
            } else if (!Modifier.isFinal(f.getModifiers())) {
                fault(f + " is static and not final");
            }
        }
        if (fields > 20) {
            fault(c + " has more than twenty fields");
        }
        for (Method m : c.getDeclaredMethods()) {
            if (m.getParameterCount() > 7) {
                fault(m + " takes more than seven parameters");
            }
        }
    }

    private static void checkWords() throws IOException {
        String source = Files.readString(Path.of("src/main/java/ClassifySort.java"));
        String code = source.replaceAll("(?s)/\\*.*?\\*/", " ").replaceAll("//[^\n]*", " ");
        Matcher found = FORBIDDEN.matcher(code);
        while (found.find()) {
            fault("the source has the word " + found.group());
        }
    }

    public static void main(String[] args) throws IOException, IllegalAccessException {
        checkMembers();
        checkBounds();
        checkWords();
        System.out.println(wrong == 0 ? "the face is the document's" : wrong + " faults");
        if (wrong != 0) {
            System.exit(1);
        }
    }
}
