import java.io.IOException;
import java.lang.reflect.Constructor;
import java.lang.reflect.Field;
import java.lang.reflect.Method;
import java.lang.reflect.Modifier;
import java.nio.file.Files;
import java.nio.file.Paths;
import java.util.Arrays;
import java.util.Set;
import java.util.TreeSet;
import java.util.regex.Pattern;

/** The face of the class, and those rules of LANGUAGE.md that can be seen from outside or in its words. */
public final class FaceTest {
    private static final Checks CHECKS = new Checks();

    private static final String[] METHODS = {"write(int)", "erase()", "fault()", "yard()", "place(int,int)",
        "hen(int,int)", "news(int)", "as(int,int)", "day()", "thunder()", "straw(int,int)", "move(int,int)",
        "eat(int)", "heed(int)", "undo()", "keep(int)", "back(int)", "lays(int,int)", "rights(int,int)",
        "ask(int,int)", "trough(int)", "warmth(int,int)", "seen(int,int,int)", "forget()", "kinds(int)",
        "habits(int)", "foxes(int,int,int,int)", "count(int)"};

    private static final String[] CONSTANTS = {"NONE=-1", "UNKNOWN=-2", "OUTSIDE=-3", "NOT=-4", "FULL=-5"};

    /** Rules 2, 3, 4, 6, 13: none of these words stands in the code. */
    private static final String[] RULED_OUT = {"throw", "throws", "try", "catch", "finally", "synchronized", "assert",
        "->", "::", "new Object", "HashMap", "Optional", "Random", "Thread", "System\\.(?!arraycopy)", "Exact",
        "protected", "package", "@", "import (?!java\\.util\\.(Arrays|ArrayList|List|Iterator);)"};

    public static void main(String[] args) throws IOException, IllegalAccessException {
        methods();
        constants();
        constructors();
        classesInside();
        words();
        CHECKS.end("FaceTest");
    }

    private static void methods() {
        Set<String> open = new TreeSet<>();
        Set<String> hidden = new TreeSet<>();
        for (Method m : HenOracle.class.getDeclaredMethods()) {
            if (Modifier.isPrivate(m.getModifiers())) {
                hidden.add(m.getName());
                continue;
            }
            String parameters = Arrays.toString(m.getParameterTypes()).replaceAll("[\\[\\] ]", "");
            open.add(m.getName() + "(" + parameters + ")");
            CHECKS.due(m.getName() + " is public", Modifier.isPublic(m.getModifiers()), true);
            CHECKS.due(m.getName() + " answers an int", m.getReturnType() == int.class, true);
            CHECKS.due(m.getName() + " is no static one", Modifier.isStatic(m.getModifiers()), false);
        }
        CHECKS.due("the methods " + open, open.equals(new TreeSet<>(Arrays.asList(METHODS))), true);
        for (String method : METHODS) {
            String name = method.substring(0, method.indexOf('('));
            CHECKS.due("a private " + name, hidden.contains(name), false);
        }
    }

    private static void constants() throws IllegalAccessException {
        Set<String> open = new TreeSet<>();
        for (Field f : HenOracle.class.getDeclaredFields()) {
            int how = f.getModifiers();
            if (!Modifier.isPrivate(how)) {
                open.add(f.getName() + "=" + f.getInt(null));
            }
            CHECKS.due(f.getName() + " is no static state", Modifier.isStatic(how) && !Modifier.isFinal(how), false);
        }
        CHECKS.due("the constants " + open, open.equals(new TreeSet<>(Arrays.asList(CONSTANTS))), true);
    }

    private static void constructors() {
        Constructor<?>[] all = HenOracle.class.getDeclaredConstructors();
        CHECKS.due("constructors", all.length, 1);
        CHECKS.due("it is public", Modifier.isPublic(all[0].getModifiers()), true);
        CHECKS.due("it takes nothing", all[0].getParameterCount(), 0);
        CHECKS.due("the class is final", Modifier.isFinal(HenOracle.class.getModifiers()), true);
    }

    private static void classesInside() {
        Set<String> face = new TreeSet<>();
        for (String method : METHODS) {
            face.add(method.substring(0, method.indexOf('(')));
        }
        for (Class<?> inside : HenOracle.class.getDeclaredClasses()) {
            CHECKS.due(inside + " is static", Modifier.isStatic(inside.getModifiers()), true);
            CHECKS.due(inside + " is public", Modifier.isPublic(inside.getModifiers()), false);
            CHECKS.due("fields of " + inside, inside.getDeclaredFields().length <= 20, true);
            for (Method m : inside.getDeclaredMethods()) {
                CHECKS.due(inside + " has a " + m.getName() + " too", face.contains(m.getName()), false);
                CHECKS.due("parameters of " + m.getName(), m.getParameterCount() <= 7, true);
            }
        }
    }

    private static void words() throws IOException {
        String source = Files.readString(Paths.get("src/main/java/HenOracle.java"));
        String code = source.replaceAll("(?s)/\\*.*?\\*/", "").replaceAll("//.*", "");
        for (String word : RULED_OUT) {
            String pattern = Character.isLetter(word.charAt(0)) ? "\\b" + word : word;
            String whole = word.matches("[a-z]+") ? pattern + "\\b" : pattern;
            CHECKS.due("'" + word + "' in the code", Pattern.compile(whole).matcher(code).find(), false);
        }
        CHECKS.due("signs of 1 to 127 alone", source.chars().allMatch(c -> c > 0 && c < 128), true);
    }
}
