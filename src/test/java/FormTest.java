import java.io.IOException;
import java.lang.reflect.Constructor;
import java.lang.reflect.Field;
import java.lang.reflect.Method;
import java.lang.reflect.Modifier;
import java.nio.file.Files;
import java.nio.file.Path;
import java.util.Arrays;
import java.util.List;
import java.util.Set;
import java.util.TreeSet;
import java.util.regex.Matcher;
import java.util.regex.Pattern;
import java.util.stream.Collectors;

/** The class's face is the document's, and its source keeps those rules that a look can tell. */
public final class FormTest {
    private static final Answers ANSWERS = new Answers();
    private static final Path SOURCE = Path.of("src", "main", "java", "BargeBallast.java");

    private static final List<String> FACE = List.of(
            "int load(int,int,int)", "int leak(int,int)", "int setGroup(int,int)",
            "int set(int,int)", "int order(int,int)", "int orderAll()", "int strike(int)",
            "int work(int)", "int pass(int)", "int sound(int)", "int type(char)",
            "int clearText()", "int undo()", "int keep()", "int restore()", "int tank(int,int)",
            "int sounding(int,int,boolean)", "int hold(int,int)", "int group(int,int)",
            "int waiting(int,int)", "int trimMoment(int)", "int upright(int,int)",
            "int count(int)");

    public static void main(String[] args) throws IOException, IllegalAccessException {
        constants();
        methods();
        constructor();
        classesInside();
        source(Files.readString(SOURCE));
        ANSWERS.end();
    }

    private static void constants() throws IllegalAccessException {
        Set<String> found = new TreeSet<>();
        for (Field field : BargeBallast.class.getDeclaredFields()) {
            int modifiers = field.getModifiers();
            if (!Modifier.isPrivate(modifiers)) {
                ANSWERS.isTrue(field + " is public static final", Modifier.isPublic(modifiers)
                        && Modifier.isStatic(modifiers) && Modifier.isFinal(modifiers));
                found.add(field.getName() + " " + field.getInt(null));
            }
        }
        Set<String> due = new TreeSet<>(Set.of("UNKNOWN -1001", "BAD_VALUE -1002", "FULL -1003",
                "NOT_POSSIBLE -1004", "NONE -1005"));
        ANSWERS.isTrue("constants " + found, found.equals(due));
    }

    private static void methods() {
        Set<String> found = new TreeSet<>();
        Set<String> names = new TreeSet<>();
        for (Method method : BargeBallast.class.getDeclaredMethods()) {
            if (!Modifier.isPrivate(method.getModifiers())) {
                ANSWERS.isTrue(method + " is public", Modifier.isPublic(method.getModifiers()));
                names.add(method.getName());
                found.add(method.getReturnType() + " " + method.getName() + "("
                        + Arrays.stream(method.getParameterTypes()).map(Class::getName)
                                .collect(Collectors.joining(",")) + ")");
            }
        }
        ANSWERS.isTrue("methods " + found, found.equals(new TreeSet<>(FACE)));
        for (Method method : BargeBallast.class.getDeclaredMethods()) {
            ANSWERS.isTrue(method + " is private and bears no public name",
                    Modifier.isPublic(method.getModifiers()) || !names.contains(method.getName()));
        }
    }

    private static void constructor() {
        Constructor<?>[] constructors = BargeBallast.class.getDeclaredConstructors();
        ANSWERS.due("constructors", constructors.length, 1);
        ANSWERS.isTrue("it is public", Modifier.isPublic(constructors[0].getModifiers()));
        ANSWERS.due("its parameters", constructors[0].getParameterCount(), 0);
        ANSWERS.isTrue("the class is public and final",
                Modifier.isPublic(BargeBallast.class.getModifiers())
                        && Modifier.isFinal(BargeBallast.class.getModifiers()));
    }

    private static void classesInside() {
        Class<?>[] classes = BargeBallast.class.getDeclaredClasses();
        ANSWERS.isTrue("at most 12 classes", classes.length + 1 <= 12);
        for (Class<?> inside : classes) {
            ANSWERS.isTrue(inside + " is static and not public",
                    Modifier.isStatic(inside.getModifiers())
                            && !Modifier.isPublic(inside.getModifiers()));
            for (Method method : inside.getDeclaredMethods()) {
                ANSWERS.isTrue(method + " has at most 7 parameters",
                        method.getParameterCount() <= 7);
            }
            for (Field field : inside.getDeclaredFields()) {
                ANSWERS.isTrue(field + " is final if it is static",
                        !Modifier.isStatic(field.getModifiers())
                                || Modifier.isFinal(field.getModifiers()));
            }
        }
    }

    private static void source(String source) {
        String code = source.replaceAll("(?s)/\\*.*?\\*/", " ").replaceAll("//[^\n]*", " ");
        Matcher forbidden = Pattern.compile("\\b(package|import|throw|throws|try|catch|finally"
                + "|synchronized|assert|native|volatile|transient|Random|System\\.(?!arraycopy)\\w+"
                + "|Thread|Object|getClass|\\w+Exact)\\b|->|::").matcher(code);
        ANSWERS.isTrue("no word that the rules leave out", !forbidden.find());
        ANSWERS.isTrue("signs 1 to 127 alone", source.chars().allMatch(c -> c >= 1 && c <= 127));
    }
}
