import java.io.IOException;
import java.nio.file.Files;
import java.nio.file.Path;
import java.util.ArrayList;
import java.util.List;
import java.util.Set;
import java.util.TreeSet;
import java.util.regex.Matcher;
import java.util.regex.Pattern;

/** README.md: each call of its example answers what stands behind it, and its table of calls has every one. */
public final class ReadmeTest {
    private static final Pattern EXAMPLE = Pattern.compile("world\\.(\\w+)\\(([^)]*)\\); +// (-?\\d+):.*");
    private static final Pattern TABLE = Pattern.compile("\\| `(\\w+)\\(([^)]*)\\)` \\|.*");

    public static void main(String[] args) throws IOException, ReflectiveOperationException {
        List<String> lines = Files.readAllLines(Path.of("README.md"));
        theExampleAnswersAsItSays(lines);
        theTableHasEveryCall(lines);
        Check.end();
    }

    private static void theExampleAnswersAsItSays(List<String> lines) throws ReflectiveOperationException {
        ArchetypeWorld world = new ArchetypeWorld();
        int calls = 0;
        for (String line : lines) {
            Matcher call = EXAMPLE.matcher(line);
            boolean readable = call.matches();
            Check.holds("a call that can be read in: " + line, readable || !line.startsWith("world."));
            if (readable) {
                calls++;
                Check.due(line, answer(world, call.group(1), call.group(2)), Integer.parseInt(call.group(3)));
            }
        }
        Check.holds("an example in README.md", calls > 0);
    }

    private static int answer(ArchetypeWorld world, String name, String list) throws ReflectiveOperationException {
        List<Object> arguments = new ArrayList<>();
        List<Class<?>> types = new ArrayList<>();
        for (String argument : list.split(", ")) {
            if (!argument.isEmpty()) {
                arguments.add(valueOf(argument));
                types.add(int.class);
            }
        }
        Class<?>[] signature = types.toArray(new Class<?>[0]);
        return (int) ArchetypeWorld.class.getMethod(name, signature).invoke(world, arguments.toArray());
    }

    /** Sums of products, as the example writes sets and work: 0 + 8 * 0 + 64 * 1. */
    private static int valueOf(String argument) {
        int sum = 0;
        for (String term : argument.split(" \\+ ")) {
            int product = 1;
            for (String factor : term.split(" \\* ")) {
                product *= Integer.parseInt(factor);
            }
            sum += product;
        }
        return sum;
    }

    private static void theTableHasEveryCall(List<String> lines) {
        Set<String> told = new TreeSet<>();
        for (String line : lines) {
            Matcher row = TABLE.matcher(line);
            if (row.matches()) {
                int parameters = row.group(2).isEmpty() ? 0 : row.group(2).split(", ").length;
                told.add(row.group(1) + "/" + parameters);
            }
        }
        Check.holds("the table's calls " + told + " being " + FaceTest.METHODS, told.equals(FaceTest.METHODS));
    }
}
