import java.io.IOException;
import java.nio.file.Files;
import java.nio.file.Path;
import java.util.List;
import java.util.regex.Matcher;
import java.util.regex.Pattern;

/** The examples of README.md, line by line: each answers what stands beside it. */
public final class ReadmeTest {
    private static final Check CHECK = new Check();
    private static final Pattern FED = Pattern.compile("feed\\(x, \"(.*)\"\\);");
    private static final Pattern CALLED = Pattern.compile("x\\.([a-z]+)\\((.*?)\\); *// (-?[0-9]+): .*");

    public static void main(String[] args) throws IOException {
        WakingLayers x = new WakingLayers();
        int shown = 0;
        for (String line : Files.readAllLines(Path.of("README.md"))) {
            Matcher fed = FED.matcher(line);
            Matcher called = CALLED.matcher(line);
            if (fed.matches()) {
                Check.feed(x, fed.group(1));
            } else if (called.matches()) {
                shown++;
                CHECK.due(line, answer(x, called.group(1), numbers(called.group(2))), Long.parseLong(called.group(3)));
            }
        }
        CHECK.due("lines with an answer", shown, 17);
        CHECK.finish();
    }

    private static int[] numbers(String told) {
        return List.of(told.replace("WakingLayers.NONE", "" + WakingLayers.NONE).split(", ")).stream()
            .filter(number -> !number.isEmpty()).mapToInt(Integer::parseInt).toArray();
    }

    private static int answer(WakingLayers x, String call, int[] n) {
        return switch (call) {
            case "read" -> x.read();
            case "call" -> x.call(n[0], n[1], n[2]);
            case "wake" -> x.wake(n[0], n[1]);
            case "sleep" -> x.sleep(n[0]);
            case "ran" -> x.ran(n[0]);
            case "fact" -> x.fact(n[0], n[1]);
            case "point" -> x.point();
            case "together" -> x.together(n[0], n[1]);
            case "same" -> x.same(n[0], n[1], n[2], n[3], n[4]);
            case "ask" -> x.ask(n[0], n[1]);
            case "trace" -> x.trace(n[0]);
            default -> throw new IllegalArgumentException(call);
        };
    }
}
