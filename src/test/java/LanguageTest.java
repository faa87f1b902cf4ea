import java.io.IOException;
import java.lang.reflect.Constructor;
import java.lang.reflect.Field;
import java.lang.reflect.Method;
import java.lang.reflect.Modifier;
import java.nio.file.Files;
import java.nio.file.Path;
import java.util.List;
import java.util.Set;
import java.util.TreeSet;

/** The document's face, as it stands there, and what of LANGUAGE.md a program can see. */
public final class LanguageTest {
    private static final List<String> FACE = List.of(
        "int areTrue(int)", "int check(int)", "int colonel(int,int)", "int count(int)", "int falseOne(int,boolean)",
        "int feed(int,int,int,int,int)", "int fewest(int,int)", "int heavier(int,int)", "int hours(int)", "int keep()",
        "int law(int)", "int liars(int)", "int odd(int)", "int orders(int)", "int pairs(int)", "int party(int,int,int)",
        "int row(int,int)", "int scales(int,int,int)", "int seesaw(int)", "int share(int,int)", "int standsFor(int,int)",
        "int stones(int,boolean)", "int teams(int)", "int tried(int,int)", "int walkerIs(int,int)", "int weighings(int)",
        "boolean rules(int,int)", "boolean seed(int)", "boolean undo()", "boolean walker(int,int)");
    private static final List<String> FORBIDDEN = List.of("throw", "try", "catch", "synchronized", "assert", "System.out",
        "->", "::", "Exact(", "MAX_VALUE", "MIN_VALUE", "Random", "hashCode", "toString", "static {");

    public static void main(String[] args) throws IOException {
        face();
        nestedClasses();
        source(Files.readAllLines(Path.of("src/main/java/RopeScale.java")));
        Due.end();
    }

    private static void face() {
        Set<String> found = new TreeSet<>();
        Set<String> names = new TreeSet<>();
        for (Method method : RopeScale.class.getDeclaredMethods()) {
            if (Modifier.isPublic(method.getModifiers())) {
                found.add(signature(method));
                names.add(method.getName());
            } else {
                Due.is(method + " is private", Modifier.isPrivate(method.getModifiers()) || method.isSynthetic(), true);
            }
        }
        Due.is("the face is " + found, found.equals(new TreeSet<>(FACE)), true);
        for (Class<?> nested : RopeScale.class.getDeclaredClasses()) {
            for (Method method : nested.getDeclaredMethods()) {
                Due.is(method + " bears a name of the face", names.contains(method.getName()), false);
            }
        }
        for (Field field : RopeScale.class.getDeclaredFields()) {
            boolean isNone = field.getName().equals("NONE");
            Due.is(field + " is public", Modifier.isPublic(field.getModifiers()), isNone);
            Due.is(field + " is private", Modifier.isPrivate(field.getModifiers()), !isNone);
        }
        Constructor<?>[] made = RopeScale.class.getDeclaredConstructors();
        Due.is("one constructor", made.length, 1);
        Due.is("without arguments, public", made[0].getParameterCount() == 0 && Modifier.isPublic(made[0].getModifiers()), true);
        Due.is("final", Modifier.isFinal(RopeScale.class.getModifiers()), true);
        Due.is("NONE", RopeScale.NONE, -1);
    }

    private static String signature(Method method) {
        StringBuilder text = new StringBuilder(method.getReturnType() + " " + method.getName() + "(");
        for (Class<?> one : method.getParameterTypes()) {
            text.append(text.charAt(text.length() - 1) == '(' ? "" : ",").append(one);
        }
        return text + ")";
    }

    private static void nestedClasses() {
        Due.is("some twelve classes", RopeScale.class.getDeclaredClasses().length + 1 <= 12, true);
        for (Class<?> nested : RopeScale.class.getDeclaredClasses()) {
            Due.is(nested + " is static", Modifier.isStatic(nested.getModifiers()), true);
            int fields = 0;
            for (Field field : nested.getDeclaredFields()) {
                boolean isStatic = Modifier.isStatic(field.getModifiers());
                fields += isStatic ? 0 : 1;
                Due.is(field + " static and not final", isStatic && !Modifier.isFinal(field.getModifiers()), false);
            }
            Due.is(nested + " has some twenty fields", fields <= 20, true);
            for (Method method : nested.getDeclaredMethods()) {
                Due.is(method + " takes seven at most", method.getParameterCount() <= 7, true);
            }
        }
    }

    private static void source(List<String> lines) {
        int begun = -1;
        for (int k = 0; k < lines.size(); k++) {
            String code = lines.get(k).replaceAll("//.*|^\\s*/?\\*.*", "");
            for (String word : FORBIDDEN) {
                boolean isWord = word.matches("\\w+") ? code.matches(".*\\b" + word + "\\b.*") : code.contains(word);
                Due.is("line " + (k + 1) + " has " + word, isWord, false);
            }
            if (code.startsWith("import")) {
                Due.is("line " + (k + 1) + " imports Arrays", code.equals("import java.util.Arrays;"), true);
            }
            if (code.matches("( {4}| {8})[a-z].*\\) \\{")) {
                begun = k;
            }
            if (code.matches("( {4}| {8})\\}") && begun >= 0) {
                Due.is("the method at line " + (begun + 1) + " is short", k - begun <= 60, true);
                begun = -1;
            }
        }
    }
}
