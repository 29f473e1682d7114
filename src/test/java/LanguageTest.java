import java.io.IOException;
import java.lang.reflect.Constructor;
import java.lang.reflect.Field;
import java.lang.reflect.Method;
import java.lang.reflect.Modifier;
import java.nio.file.Files;
import java.nio.file.Path;
import java.util.List;
import java.util.Set;
import java.util.TreeSet;
import java.util.regex.Matcher;
import java.util.regex.Pattern;

/** What can be looked at of ../shared/LANGUAGE.md: the face by reflection, the rest in the source's lines. */
public final class LanguageTest {
    private static final Checks C = new Checks("LanguageTest");
    private static final List<String> FACE = List.of("int feed(int,int,int,int,int)", "int bridge(int)", "int toll(int)", "int fault()",
        "int told(int)", "int traveller(int,int)", "int day(int,int)", "int altitude(int,int,int)", "int shadow(int,int,int,int)",
        "int law(int,int)", "int coins(int,int,int,int,boolean)", "int best(int,int,int,int)", "int week(int,int)",
        "int plan(int,int,boolean,int)", "int slot(int,int,boolean,int)", "int slots()", "int most(int)", "int cross(int,int,int,int)",
        "int undo()", "int taken(int)", "int write(int,int)", "int stolen(int)", "int much()", "int lines(int,int,int)",
        "int war(int,int,int)", "int ledger(int,int)", "int forget()", "int fits(int,int,int)", "int sky(int)", "int season(int,int,int)",
        "int span(int,int,int,int,int)", "int image()", "int restore()", "int count(int)");

    public static void main(String[] args) throws IOException {
        face();
        nested();
        source(Files.readString(Path.of("src/main/java/ShadowTolls.java")));
        C.end();
    }

    private static String told(Method m) {
        StringBuilder s = new StringBuilder(m.getReturnType().getName()).append(' ').append(m.getName()).append('(');
        for (Class<?> p : m.getParameterTypes()) {
            s.append(s.charAt(s.length() - 1) == '(' ? "" : ",").append(p.getName());
        }
        return s.append(')').toString();
    }

    private static void face() {
        Set<String> open = new TreeSet<>();
        Set<String> names = new TreeSet<>();
        for (Method m : ShadowTolls.class.getDeclaredMethods()) {
            if (!Modifier.isPrivate(m.getModifiers())) {
                C.same(m + " is public", m.getModifiers(), Modifier.PUBLIC);
                open.add(told(m));
                names.add(m.getName());
            }
        }
        for (Method m : ShadowTolls.class.getDeclaredMethods()) {
            C.same(m + " bears a public one's name", Modifier.isPrivate(m.getModifiers()) && names.contains(m.getName()) ? 1 : 0, 0);
        }
        C.same("the face's methods " + open, open.equals(new TreeSet<>(FACE)) ? 1 : 0, 1);
        for (Field f : ShadowTolls.class.getDeclaredFields()) {
            boolean none = f.getName().equals("NONE");
            C.same(f + " is private, but for NONE", Modifier.isPrivate(f.getModifiers()) != none ? 1 : 0, 1);
        }
        Constructor<?>[] made = ShadowTolls.class.getDeclaredConstructors();
        C.same("one constructor", made.length == 1 && Modifier.isPublic(made[0].getModifiers()) && made[0].getParameterCount() == 0 ? 1 : 0, 1);
        C.same("public and final", ShadowTolls.class.getModifiers(), Modifier.PUBLIC | Modifier.FINAL);
    }

    private static void nested() {
        Class<?>[] inside = ShadowTolls.class.getDeclaredClasses();
        C.same("some twelve classes: " + inside.length, inside.length <= 11 ? 1 : 0, 1);
        for (Class<?> c : inside) {
            C.same(c + " is static", Modifier.isStatic(c.getModifiers()) && !Modifier.isPublic(c.getModifiers()) ? 1 : 0, 1);
            int fields = 0;
            for (Field f : c.getDeclaredFields()) {
                fields += Modifier.isStatic(f.getModifiers()) ? 0 : 1;
            }
            C.same(c + " has some twenty fields: " + fields, fields <= 23 ? 1 : 0, 1);
            for (Method m : c.getDeclaredMethods()) {
                C.same(m + " has seven parameters at most", m.getParameterCount() <= 7 ? 1 : 0, 1);
                C.same(m + " is named like one of the face", FACE.stream().anyMatch(f -> f.contains(" " + m.getName() + "(")) ? 1 : 0, 0);
            }
        }
    }

    private static void source(String text) {
        for (String no : List.of("->", "::", "try {", "catch", "finally", "synchronized", "assert ", "Arrays", "System.", "Exact", "@", "package")) {
            C.same("the source has " + no, text.contains(no) ? 1 : 0, 0);
        }
        C.same("signs", text.chars().allMatch(c -> c == '\n' || c >= 32 && c < 127) ? 1 : 0, 1);
        Matcher imports = Pattern.compile("(?m)^import (.*);").matcher(text);
        while (imports.find()) {
            C.same("import " + imports.group(1), imports.group(1).equals("java.util.NoSuchElementException") ? 1 : 0, 1);
        }
        Matcher thrown = Pattern.compile("throw ([^;]*);").matcher(text);
        while (thrown.find()) {
            C.same("throw " + thrown.group(1),
                thrown.group(1).matches("new (IllegalArgument|IllegalState|IndexOutOfBounds|NoSuchElement)Exception\\(\"[a-z ]*\"\\)") ? 1 : 0, 1);
        }
        lengths(text.split("\n"));
    }

    /** A method begins at a line that ends with ") {" or "Exception {" and ends at the brace below it. */
    private static void lengths(String[] lines) {
        for (int i = 0; i < lines.length; i++) {
            Matcher m = Pattern.compile("^( {4}| {8})(?! )(?!if|for|while|switch)(.*)(\\)|Exception) \\{$").matcher(lines[i]);
            if (m.matches()) {
                int end = i + 1;
                while (!lines[end].equals(m.group(1) + "}")) {
                    end++;
                }
                C.same("a short method: " + lines[i].trim(), end - i < 60 ? 1 : 0, 1);
            }
        }
    }
}
