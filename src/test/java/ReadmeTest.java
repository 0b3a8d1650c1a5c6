import java.lang.reflect.Method;
import java.nio.file.Files;
import java.nio.file.Path;
import java.util.HashSet;
import java.util.Set;
import java.util.regex.Matcher;
import java.util.regex.Pattern;

/** README.md's example answers what it says behind each call, and README.md leaves out no call and no limit. */
public final class ReadmeTest {
    private static final Pattern CALL = Pattern.compile("(?m)^x\\.(\\w+)\\((.*)\\);\\s*// (-?\\d+)\\b");
    private static final String[] LIMITS = {"512 calls", "60 rows", "300 moments", "10 readers", "600 marks", "200 bytes",
        "20 parts", "6 braces", "-1000 to 1000", "1 to 100"};

    private static final Check check = new Check("ReadmeTest");

    public static void main(String[] args) throws Exception {
        String readme = Files.readString(Path.of("README.md"));
        example(readme.replaceAll("(?s).*```java\n(.*?)```.*", "$1"));
        for (Method face : PaperRows.class.getDeclaredMethods()) {
            if (java.lang.reflect.Modifier.isPublic(face.getModifiers())) {
                check.due("README.md tells of " + face.getName(), readme.contains("`" + face.getName() + "(") ? 1 : 0, 1);
            }
        }
        for (String limit : LIMITS) {
            check.due("README.md tells of " + limit, readme.contains(limit) ? 1 : 0, 1);
        }
        check.close();
    }

    private static void example(String lines) throws Exception {
        PaperRows x = new PaperRows();
        Set<String> called = new HashSet<>();
        Matcher m = CALL.matcher(lines);
        while (m.find()) {
            called.add(m.group(1));
            check.due(m.group(), answer(x, m.group(1), m.group(2)), Integer.parseInt(m.group(3)));
        }
        long written = lines.lines().filter(line -> line.startsWith("x.")).count();
        check.due("calls of the example with an answer behind them", CALL.matcher(lines).results().count(), written);
        check.due("the example has calls", called.size() >= 10 ? 1 : 0, 1);
    }

    private static int answer(PaperRows x, String name, String arguments) throws Exception {
        String[] parts = arguments.isEmpty() ? new String[0] : arguments.split(", ");
        Object[] numbers = new Object[parts.length];
        for (int i = 0; i < parts.length; i++) {
            numbers[i] = parts[i].equals("PaperRows.NONE") ? PaperRows.NONE : Integer.decode(parts[i]);
        }
        for (Method face : PaperRows.class.getDeclaredMethods()) {
            if (face.getName().equals(name)) {
                return (Integer) face.invoke(x, numbers);
            }
        }
        throw new IllegalArgumentException(name);
    }
}
