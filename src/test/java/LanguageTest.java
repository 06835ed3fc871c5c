import java.io.IOException;
import java.lang.reflect.Constructor;
import java.lang.reflect.Field;
import java.lang.reflect.Method;
import java.lang.reflect.Modifier;
import java.nio.file.Files;
import java.nio.file.Path;
import java.util.Arrays;
import java.util.HashSet;
import java.util.Set;
import java.util.TreeSet;
import java.util.regex.Matcher;
import java.util.regex.Pattern;

/** The public face, and those rules of LANGUAGE.md that can be read off the text or the class. */
public final class LanguageTest {
    private static final Check check = new Check();

    private static final String[] FACE = {
        "make(int,int,int)", "mix(int,int,int)", "remove(int)", "ask(int)", "root(int)", "cut(int)",
        "join(int)", "set(int,int)", "type(char)", "clearText()", "perform()", "stopped(int)",
        "undo()", "keep()", "restore()", "cell(int,int)", "version(int,int)", "way(int,int)",
        "unlike(int,int)", "common(int,int)", "ifRoot(int)", "bestRoot(int)", "ifCut(int)",
        "count(int)",
    };

    private static final String[] FORBIDDEN = {
        "throw", "throws", "try", "catch", "finally", "synchronized", "assert", "import", "package",
        "equals", "hashCode", "toString", "Object", "System.out", "Math.random", "Exact", "->", "::",
    };

    public static void main(String[] args) throws IOException {
        face();
        names();
        fields();
        words();
        check.end();
    }

    private static void face() {
        check.test("rule 1: the face");
        Class<?> face = RootedDeltas.class;
        check.yes("public and final", Modifier.isPublic(face.getModifiers())
                && Modifier.isFinal(face.getModifiers()));
        Set<String> open = new TreeSet<>();
        for (Method method : face.getDeclaredMethods()) {
            if (!Modifier.isPrivate(method.getModifiers())) {
                String types = Arrays.toString(method.getParameterTypes()).replaceAll("[\\[\\] ]", "");
                open.add(method.getName() + "(" + types + ")");
                check.yes(method + " is public and answers int",
                        method.getModifiers() == Modifier.PUBLIC && method.getReturnType() == int.class);
            }
        }
        check.same("the face", new TreeSet<>(Arrays.asList(FACE)) + "\n", open + "\n");
        Set<String> constants = new TreeSet<>();
        for (Field field : face.getDeclaredFields()) {
            if (!Modifier.isPrivate(field.getModifiers())) {
                constants.add(field.getName());
            }
        }
        check.same("the constants", "[BAD_VALUE, FULL, NONE, NOT_POSSIBLE, UNKNOWN]\n", constants + "\n");
        Constructor<?>[] constructors = face.getDeclaredConstructors();
        check.due(1, constructors.length);
        check.due(0, constructors[0].getParameterCount());
        check.yes("a public constructor", Modifier.isPublic(constructors[0].getModifiers()));
    }

    private static void names() {
        check.test("rule 1: no other method bears the name of a public one");
        Set<String> taken = new HashSet<>();
        for (String method : FACE) {
            taken.add(method.substring(0, method.indexOf('(')));
        }
        for (Method method : RootedDeltas.class.getDeclaredMethods()) {
            check.yes(method.toString(), Modifier.isPublic(method.getModifiers())
                    || !taken.contains(method.getName()));
        }
        for (Class<?> inside : RootedDeltas.class.getDeclaredClasses()) {
            check.yes(inside + " is static", Modifier.isStatic(inside.getModifiers()));
            check.yes(inside + " is not public", !Modifier.isPublic(inside.getModifiers()));
            for (Method method : inside.getDeclaredMethods()) {
                check.yes(method.toString(), !taken.contains(method.getName()));
            }
        }
    }

    private static void fields() {
        check.test("rules 5, 11: fields, parameters, classes");
        check.yes("at most twelve classes", RootedDeltas.class.getDeclaredClasses().length <= 12);
        checkMembers(RootedDeltas.class);
        for (Class<?> inside : RootedDeltas.class.getDeclaredClasses()) {
            checkMembers(inside);
        }
    }

    private static void checkMembers(Class<?> type) {
        int own = 0;
        for (Field field : type.getDeclaredFields()) {
            if (Modifier.isStatic(field.getModifiers())) {
                check.yes(field + " is final", Modifier.isFinal(field.getModifiers()));
            } else {
                own++;
            }
        }
        check.yes(type + " has at most 20 fields", own <= 20);
        for (Method method : type.getDeclaredMethods()) {
            check.yes(method + " takes at most seven", method.getParameterCount() <= 7);
        }
    }

    private static void words() throws IOException {
        check.test("rules 4, 6, 13: words that may not stand there");
        String text = Files.readString(Path.of("src/main/java/RootedDeltas.java"));
        String code = text.replaceAll("(?s)/\\*.*?\\*/", "").replaceAll("//[^\n]*", "");
        for (String word : FORBIDDEN) {
            boolean isWord = Character.isLetter(word.charAt(0));
            String around = isWord ? "\\b" + Pattern.quote(word) + "\\b" : Pattern.quote(word);
            Matcher matcher = Pattern.compile(around).matcher(code);
            check.yes("'" + word + "' stands in the program", !matcher.find());
        }
        Matcher library = Pattern.compile("\\b(System|Math|Integer|Long|Arrays|String)\\.(\\w+)")
                .matcher(code);
        Set<String> used = new TreeSet<>();
        while (library.find()) {
            used.add(library.group());
        }
        used.removeAll(Set.of("Integer.bitCount", "Integer.numberOfTrailingZeros", "Math.max",
                "Math.min", "System.arraycopy"));
        check.same("the library beside what is known", "[]\n", used + "\n");
        for (int i = 0; i < text.length(); i++) {
            check.yes("a sign beyond 127", text.charAt(i) < 128);
        }
    }
}
