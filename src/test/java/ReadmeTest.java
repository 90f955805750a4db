import java.io.IOException;
import java.nio.file.Files;
import java.nio.file.Path;
import java.util.regex.Matcher;
import java.util.regex.Pattern;

/** The example of README.md: each call answers the number that its comment begins with. */
public final class ReadmeTest {
    private static final Pattern CALL = Pattern.compile("^x\\.(\\w+)\\(([-0-9, ]+)\\); *// (-?\\d+):", Pattern.MULTILINE);

    public static void main(String[] args) throws IOException {
        String text = Files.readString(Path.of("README.md"));
        Check.holds("the object is made so", text.contains("MeshLines x = new MeshLines(2, 3);"));
        Face x = new Guarded(2, 3);
        int calls = 0;
        Matcher call = CALL.matcher(text);
        while (call.find()) {
            calls++;
            Check.due(call.group(), answer(x, call.group(1), numbers(call.group(2))), Long.parseLong(call.group(3)));
        }
        Check.due("calls with an answer", calls, text.split("\nx\\.").length - 1);
        Check.end();
    }

    private static int[] numbers(String list) {
        String[] parts = list.split(", ");
        int[] all = new int[parts.length];
        for (int i = 0; i < parts.length; i++) {
            all[i] = Integer.parseInt(parts[i]);
        }
        return all;
    }

    private static int answer(Face x, String name, int[] a) {
        return switch (name) {
            case "operation" -> x.operation(a[0], a[1], a[2], a[3], a[4]);
            case "run" -> x.run(a[0]);
            case "done" -> x.done(a[0]);
            case "result" -> x.result(a[0], a[1]);
            case "cache" -> x.cache(a[0], a[1], a[2]);
            case "home" -> x.home(a[0], a[1]);
            default -> throw new IllegalStateException("the example uses " + name);
        };
    }
}
