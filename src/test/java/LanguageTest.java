import java.io.IOException;
import java.lang.reflect.Constructor;
import java.lang.reflect.Field;
import java.lang.reflect.Member;
import java.lang.reflect.Method;
import java.lang.reflect.Modifier;
import java.nio.file.Files;
import java.nio.file.Path;
import java.util.ArrayList;
import java.util.Arrays;
import java.util.HashSet;
import java.util.List;
import java.util.Set;
import java.util.TreeSet;

/** The public face is the document's and no more, by reflection, and the words that LANGUAGE.md rules out. */
public final class LanguageTest {
    private static final List<String> FACE = List.of(
            "boolean connected(int)", "int cheapest(int)", "int cost(int)", "int filter(int, int, int)",
            "int gain(int, int)", "int left(int)", "int linearCost(int)", "int linearTable(int, int)",
            "int linkedCost(int)", "int linkedPlans(int)", "int plans(int)", "int size(int)",
            "int table(int, int)", "int unfilter(int, int)", "int worst(int)");
    private static final Set<Class<?>> TYPES = Set.of(int.class, long.class, short.class, byte.class, char.class,
            boolean.class, int[].class, long[].class, short[].class, byte[].class, char[].class, boolean[].class);
    private static final List<String> FORBIDDEN = List.of("import", "package", "throw", "throws", "try", "catch",
            "synchronized", "assert", "instanceof", "null", "float", "double", "String", "Math", "Integer", "System",
            "Arrays", "Object", "enum", "record", "interface", "protected", "var");

    private static final Due due = new Due();

    public static void main(String[] args) throws IOException {
        Class<?> program = JoinOrderer.class;
        due.same("public and final", program.getModifiers(), Modifier.PUBLIC | Modifier.FINAL);
        due.same("nested classes", program.getDeclaredClasses().length, 0);
        theMethods(program.getDeclaredMethods());
        theFields(program.getDeclaredFields());
        theConstructors(program.getDeclaredConstructors());
        theWords(Files.readString(Path.of("src/main/java/JoinOrderer.java")));
        due.end();
    }

    private static void isPublicOrPrivate(Member member) {
        int visible = member.getModifiers() & (Modifier.PUBLIC | Modifier.PRIVATE);
        due.same(member + " is public or private", visible != 0, true);
    }

    private static void theMethods(Method[] methods) {
        Set<String> face = new TreeSet<>();
        Set<String> publicNames = new HashSet<>();
        List<Method> privates = new ArrayList<>();
        for (Method m : methods) {
            isPublicOrPrivate(m);
            due.same(m + " takes at most seven", m.getParameterCount() <= 7, true);
            for (Class<?> type : m.getParameterTypes()) {
                due.same(m + " takes plain types", TYPES.contains(type), true);
            }
            if (Modifier.isPublic(m.getModifiers())) {
                String types = Arrays.toString(m.getParameterTypes()).replace("[", "(").replace("]", ")");
                face.add(m.getReturnType() + " " + m.getName() + types);
                publicNames.add(m.getName());
            } else {
                privates.add(m);
            }
        }
        due.same("the public methods " + face, face.equals(new TreeSet<>(FACE)), true);
        for (Method m : privates) {
            due.same(m + " has a public name", publicNames.contains(m.getName()), false);
        }
    }

    private static void theFields(Field[] fields) {
        Set<String> publicNames = new TreeSet<>();
        int own = 0;
        for (Field f : fields) {
            isPublicOrPrivate(f);
            due.same(f + " is of a plain type", TYPES.contains(f.getType()), true);
            if (Modifier.isStatic(f.getModifiers())) {
                boolean constant = Modifier.isFinal(f.getModifiers()) && !f.getType().isArray();
                due.same(f + " is a constant", constant, true);
            } else {
                own++;
            }
            if (Modifier.isPublic(f.getModifiers())) {
                publicNames.add(f.getName());
            }
        }
        due.same("the public fields " + publicNames, publicNames.equals(Set.of("BAD_ARG", "NONE")), true);
        due.same("at most forty fields", own <= 40, true);
    }

    private static void theConstructors(Constructor<?>[] constructors) {
        due.same("constructors", constructors.length, 1);
        due.same("it takes nothing", constructors[0].getParameterCount(), 0);
        due.same("it is public", Modifier.isPublic(constructors[0].getModifiers()), true);
    }

    private static void theWords(String source) {
        String code = source.replaceAll("(?s)/\\*.*?\\*/", " ").replaceAll("//[^\n]*", " ");
        Set<String> words = new HashSet<>(Arrays.asList(code.split("\\W+")));
        for (String word : FORBIDDEN) {
            due.same("the word " + word, words.contains(word), false);
        }
        due.same("lambdas and method references", code.contains("->") || code.contains("::"), false);
        due.same("text", code.contains("\""), false);
    }
}
