import java.nio.file.Files;
import java.nio.file.Path;
import java.util.ArrayList;
import java.util.List;
import java.util.regex.Matcher;
import java.util.regex.Pattern;

/** What README.md shows: each call in it answers what is said behind it. */
public final class ReadmeTest {
    private static final Due due = new Due();
    private static final Pattern LINE = Pattern.compile("(?:int (\\w+) = )?city\\.(\\w+)\\((.*)\\); +// (-?\\d+): .*");

    public static void main(String[] args) throws Exception {
        String text = Files.readString(Path.of("README.md"));
        String example = text.substring(text.indexOf("```java") + 7).split("```")[0];
        SherdCity city = new SherdCity();
        List<String> names = new ArrayList<>();
        List<Integer> numbers = new ArrayList<>();
        int calls = 0;
        for (String line : example.strip().split("\n")) {
            Matcher m = LINE.matcher(line);
            if (line.equals("SherdCity city = new SherdCity();")) {
                continue;
            }
            due.holds("a call and its answer: " + line, m.matches());
            int got = call(city, m.group(2), m.group(3), names, numbers);
            due.is(line, got, Integer.parseInt(m.group(4)));
            if (m.group(1) != null) {
                names.add(m.group(1));
                numbers.add(got);
            }
            calls++;
        }
        due.holds("calls in README.md", calls > 5);
        due.end();
    }

    private static int call(SherdCity city, String name, String told, List<String> names, List<Integer> numbers) throws Exception {
        String[] parts = told.isEmpty() ? new String[0] : told.split(", ");
        Class<?>[] types = new Class<?>[parts.length];
        Object[] values = new Object[parts.length];
        for (int i = 0; i < parts.length; i++) {
            boolean isLong = parts[i].endsWith("L");
            int known = names.indexOf(parts[i]);
            types[i] = isLong ? long.class : int.class;
            if (isLong) {
                values[i] = Long.decode(parts[i].substring(0, parts[i].length() - 1));
            } else {
                values[i] = known >= 0 ? numbers.get(known) : Integer.parseInt(parts[i]);
            }
        }
        return (Integer) SherdCity.class.getMethod(name, types).invoke(city, values);
    }
}
