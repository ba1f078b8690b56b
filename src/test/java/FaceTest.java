import java.lang.reflect.Field;
import java.lang.reflect.Method;
import java.lang.reflect.Modifier;
import java.nio.file.Files;
import java.nio.file.Path;
import java.util.ArrayList;
import java.util.Arrays;
import java.util.List;
import java.util.TreeSet;

/** The public face, and the rules of LANGUAGE.md that can be seen from outside. */
public final class FaceTest {
    private static final Due due = new Due();
    private static final String[] FACE = {
        "days int", "wet int", "ward int int", "harvest int int int", "man int int int int", "style int int int",
        "fear int int int", "word int int int", "heard int int", "dread int int int", "rule int int", "of int int",
        "bargain int int int int", "bound int int", "comes int int", "cast int int", "sherd int int int int int int", "vote",
        "thrown int", "sherdOf int int", "apart int int", "feed long int", "read int", "force int", "law int", "count int int",
        "counted int int boolean", "tally int int int", "tallies int", "send", "recall int int int", "may int int",
        "beside int int", "keptBy int", "broken int int", "turn int int", "prove int", "row int int", "alterRow int int int",
        "judge int", "best int", "heap int", "clear", "alike int int", "hands int", "sheet int int int", "put int int int",
        "item int int int", "comesFrom int int", "shelf int int int", "taken int int", "act int int int", "trace int", "many int",
        "keep", "again",
    };

    public static void main(String[] args) throws Exception {
        members();
        classesInside();
        source();
        due.end();
    }

    private static String signature(Method m) {
        StringBuilder b = new StringBuilder(m.getName());
        for (Class<?> type : m.getParameterTypes()) {
            b.append(' ').append(type.getName());
        }
        return b.toString();
    }

    private static void members() {
        due.is("calls of the document", FACE.length, 56);
        List<String> open = new ArrayList<>();
        TreeSet<String> hidden = new TreeSet<>();
        for (Method m : SherdCity.class.getDeclaredMethods()) {
            if (Modifier.isPrivate(m.getModifiers())) {
                hidden.add(m.getName());
            } else {
                open.add(signature(m));
                due.holds(m + " is public, answers an int, is not static", Modifier.isPublic(m.getModifiers())
                    && m.getReturnType() == int.class && !Modifier.isStatic(m.getModifiers()));
            }
        }
        due.holds("the methods are those of the document", new TreeSet<>(open).equals(new TreeSet<>(Arrays.asList(FACE))));
        for (String f : FACE) {
            due.holds("no private method is named " + f, !hidden.contains(f.split(" ")[0]));
        }
        TreeSet<String> constants = new TreeSet<>();
        for (Field f : SherdCity.class.getDeclaredFields()) {
            if (!Modifier.isPrivate(f.getModifiers())) {
                constants.add(f.getName());
                due.is(f + " is public, static and final", f.getModifiers(), Modifier.PUBLIC | Modifier.STATIC | Modifier.FINAL);
                due.holds(f + " is an int", f.getType() == int.class);
            }
        }
        due.holds("the constants", constants.equals(new TreeSet<>(List.of("BAD", "FULL", "NONE", "STATE"))));
        due.is("BAD", SherdCity.BAD, -1);
        due.is("FULL", SherdCity.FULL, -2);
        due.is("NONE", SherdCity.NONE, -3);
        due.is("STATE", SherdCity.STATE, -4);
        due.is("constructors", SherdCity.class.getDeclaredConstructors().length, 1);
        due.is("the constructor is public and takes nothing", SherdCity.class.getConstructors()[0].getParameterCount(), 0);
        due.holds("no class above it, no interface", SherdCity.class.getSuperclass() == Object.class
            && SherdCity.class.getInterfaces().length == 0);
        due.holds("no package", SherdCity.class.getPackageName().isEmpty());
        due.holds("public and final", Modifier.isPublic(SherdCity.class.getModifiers())
            && Modifier.isFinal(SherdCity.class.getModifiers()));
    }

    private static void classesInside() {
        Class<?>[] inside = SherdCity.class.getDeclaredClasses();
        due.holds("twelve classes at most", inside.length + 1 <= 12);
        for (Class<?> c : inside) {
            int m = c.getModifiers();
            due.holds(c + " is static and not public", Modifier.isStatic(m) && !Modifier.isPublic(m) && !Modifier.isProtected(m));
            fewFields(c);
            fewParameters(c);
        }
        fewFields(SherdCity.class);
        fewParameters(SherdCity.class);
    }

    private static void fewParameters(Class<?> c) {
        for (Method m : c.getDeclaredMethods()) {
            due.holds(m + " takes seven parameters at most", m.getParameterCount() <= 7);
            boolean onFace = Arrays.stream(FACE).anyMatch(f -> f.split(" ")[0].equals(m.getName()));
            due.holds(m + " is of the face or bears another name", !onFace || c == SherdCity.class);
        }
    }

    private static void fewFields(Class<?> c) {
        int own = 0;
        for (Field f : c.getDeclaredFields()) {
            if (Modifier.isStatic(f.getModifiers())) {
                due.holds(f + " is final", Modifier.isFinal(f.getModifiers()));
            } else {
                own++;
            }
        }
        due.holds(c + " has twenty fields at most", own <= 20);
    }

    private static void source() throws Exception {
        String text = Files.readString(Path.of("src/main/java/SherdCity.java"));
        String code = text.replaceAll("(?s)/\\*.*?\\*/", " ").replaceAll("//[^\n]*", " ").replaceAll("\"[^\"\n]*\"", "\"\"");
        for (String word : new String[] {"throw", "throws", "try", "catch", "finally", "synchronized", "assert", "import", "package",
            "System\\.(?!arraycopy)\\w+", "Object", "Random", "Thread", "hashCode", "toString", "equals", "\\w+Exact", "static\\s*\\{",
            "protected", "var"}) {
            due.holds("no " + word, !java.util.regex.Pattern.compile("(?<!\\w)" + word + "(?!\\w)").matcher(code).find());
        }
        due.holds("no lambda, no method reference", !code.contains("->") && !code.contains("::"));
        due.holds("signs 1 to 127 alone", text.chars().allMatch(c -> c > 0 && c < 128));
        shortMethods(code);
    }

    /** Methods are what stands between braces one or two deep. */
    private static void shortMethods(String code) {
        int line = 0;
        int began = 0;
        for (String l : code.split("\n")) {
            line++;
            if (l.matches("(    |        )[\\w<].*\\) \\{")) {
                began = line;
            }
            if (l.matches("(    |        )\\}")) {
                due.holds("a method of sixty lines at most ends at " + line, line - began <= 60);
                began = line;
            }
        }
    }
}
