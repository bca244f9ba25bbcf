import java.lang.reflect.Method;
import java.nio.file.Files;
import java.nio.file.Path;
import java.util.List;
import java.util.regex.Matcher;
import java.util.regex.Pattern;
import java.util.stream.Stream;

/** README.md: its example answers as it says, and it names every call and every test. */
public final class ReadmeTest {
    private static final Calls calls = new Calls();

    public static void main(String[] args) throws Exception {
        String page = Files.readString(Path.of("README.md"));
        example(page);
        for (Method m : HollowBed.class.getMethods()) {
            if (m.getDeclaringClass() == HollowBed.class) {
                calls.due("README.md names " + m.getName(), page.contains("`" + m.getName() + "`") ? 1 : 0, 1);
            }
        }
        for (Path test : tests()) {
            String name = test.getFileName().toString();
            calls.due("README.md names " + name, page.contains("`" + name + "`") || page.contains("/" + name + "`") ? 1 : 0, 1);
        }
        calls.close("ReadmeTest");
    }

    /** Every line "x.call(numbers); // answer" of the page, in its order, on one object. */
    private static void example(String page) throws Exception {
        HollowBed x = new HollowBed();
        Matcher line = Pattern.compile("(?m)^x\\.(\\w+)\\(([^)]*)\\); *// (-?\\d+)").matcher(page);
        int found = 0;
        while (line.find()) {
            String[] numbers = line.group(2).isEmpty() ? new String[0] : line.group(2).split(", *");
            Class<?>[] kinds = new Class<?>[numbers.length];
            Object[] given = new Object[numbers.length];
            for (int i = 0; i < numbers.length; i++) {
                kinds[i] = int.class;
                given[i] = Integer.decode(numbers[i]);
            }
            Object got = HollowBed.class.getMethod(line.group(1), kinds).invoke(x, given);
            calls.due("README.md, " + line.group(), (Integer) got, Integer.parseInt(line.group(3)));
            found++;
        }
        calls.due("README.md, calls with answers", found, page.lines().filter(l -> l.startsWith("x.")).count());
        calls.due("README.md has an example", found > 0 ? 1 : 0, 1);
    }

    private static List<Path> tests() throws Exception {
        try (Stream<Path> files = Files.list(Path.of("src/test/java"))) {
            return files.filter(f -> f.toString().endsWith("Test.java")).toList();
        }
    }
}
