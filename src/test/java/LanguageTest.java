import java.lang.reflect.Constructor;
import java.lang.reflect.Field;
import java.lang.reflect.Method;
import java.lang.reflect.Modifier;
import java.nio.file.Files;
import java.nio.file.Path;
import java.util.HashSet;
import java.util.List;
import java.util.Set;
import java.util.regex.Matcher;
import java.util.regex.Pattern;

/** The rules of LANGUAGE.md that can be seen in the source and in the compiled class. */
public final class LanguageTest {
    private static final Calls calls = new Calls();
    private static final String NAMES = "feed end city rule force bed lodger night turn stuff burn lead undo ahead comes row "
        + "tonight turned lain twins settled best rests rent note ruled look seed mays count image back";

    public static void main(String[] args) throws Exception {
        String source = Files.readString(Path.of("src/main/java/HollowBed.java"));
        words(source.replaceAll("(?s)/\\*.*?\\*/|//[^\n]*", "").replaceAll("\"[^\"\n]*\"", "\"\""));
        lengths(source.split("\n"));
        face();
        inside();
        calls.close("LanguageTest");
    }

    private static void words(String code) {
        for (String word : List.of("throw", "throws", "try", "catch", "synchronized", "assert", "import", "package", "protected",
            "Exact", "hashCode", "toString", "enum", "record", "native", "transient", "volatile", "System", "Object", "MAX_VALUE",
            "MIN_VALUE")) {
            calls.due("rule 6, the word " + word, Pattern.compile("\\b" + word + "\\b").matcher(code).find() ? 1 : 0, 0);
        }
        for (String sign : List.of("->", "::", "@", "Exact(", "while (true)", "for (;;)")) {
            calls.due("no " + sign, code.contains(sign) ? 1 : 0, 0);
        }
        Matcher library = Pattern.compile("\\b(Math|Integer|Long)\\.(\\w+)").matcher(code);
        while (library.find()) {
            boolean known = Set.of("abs", "min", "max", "floorDiv", "bitCount").contains(library.group(2));
            calls.due("rule 4, " + library.group(), known ? 1 : 0, 1);
        }
        for (char sign : code.toCharArray()) {
            if (sign > 127) calls.due("rule 4, sign " + (int) sign, 1, 0);
        }
    }

    /** Methods stay under sixty lines, lines under 100 signs. */
    private static void lengths(String[] lines) {
        int open = -1;
        for (int i = 0; i < lines.length; i++) {
            if (lines[i].length() > 100) calls.due("line " + (i + 1) + " is long", lines[i].length(), 100);
            if (lines[i].matches("( {4}| {8})[\\w\\[\\]<> ]+\\(.*\\) \\{")) open = i;
            if (open >= 0 && lines[i].matches("( {4}| {8})\\}")) {
                if (i - open > 60) calls.due("method at line " + (open + 1) + " is long", i - open, 60);
                open = -1;
            }
        }
        calls.due("a method was left open", open, -1);
    }

    private static void face() {
        Set<String> names = new HashSet<>(List.of(NAMES.split(" ")));
        calls.due("public and final", HollowBed.class.getModifiers(), Modifier.PUBLIC | Modifier.FINAL);
        for (Method m : HollowBed.class.getDeclaredMethods()) {
            boolean known = names.contains(m.getName());
            calls.due(m + " is public as told", Modifier.isPublic(m.getModifiers()) ? 1 : 0, known ? 1 : 0);
            calls.due(m + " is private else", Modifier.isPrivate(m.getModifiers()) ? 1 : 0, known ? 0 : 1);
            if (known) calls.due(m + " answers an int", m.getReturnType() == int.class ? 1 : 0, 1);
        }
        for (Field f : HollowBed.class.getDeclaredFields()) {
            calls.due(f + " is private", Modifier.isPrivate(f.getModifiers()) ? 1 : 0, f.getName().equals("NONE") ? 0 : 1);
        }
        calls.due("constructors", HollowBed.class.getDeclaredConstructors().length, 1);
    }

    private static void inside() {
        Set<String> names = new HashSet<>(List.of(NAMES.split(" ")));
        Class<?>[] classes = HollowBed.class.getDeclaredClasses();
        calls.due("at most twelve classes", classes.length <= 11 ? 1 : 0, 1);
        for (Class<?> c : classes) {
            calls.due(c + " is private and static", c.getModifiers() & (Modifier.PRIVATE | Modifier.STATIC), Modifier.PRIVATE | Modifier.STATIC);
            int fields = 0;
            for (Field f : c.getDeclaredFields()) {
                if (!Modifier.isStatic(f.getModifiers())) fields++;
                else calls.due(f + " is final", Modifier.isFinal(f.getModifiers()) ? 1 : 0, 1);
            }
            calls.due(c + " has few fields", fields <= 20 ? 1 : 0, 1);
            for (Method m : c.getDeclaredMethods()) {
                calls.due(m + " bears no public name", names.contains(m.getName()) ? 1 : 0, 0);
                calls.due(m + " takes at most seven", m.getParameterCount() <= 7 ? 1 : 0, 1);
                calls.due(m + " is not public", Modifier.isPublic(m.getModifiers()) ? 1 : 0, 0);
            }
            for (Constructor<?> k : c.getDeclaredConstructors()) {
                calls.due(k + " is not public", Modifier.isPublic(k.getModifiers()) ? 1 : 0, 0);
            }
        }
    }
}
