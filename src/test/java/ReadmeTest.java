import java.io.IOException;
import java.nio.file.Files;
import java.nio.file.Path;
import java.util.regex.Matcher;
import java.util.regex.Pattern;

/** What README.md tells of the class holds: its example answers what it says there, and every call is told. */
public final class ReadmeTest {
    public static void main(String[] args) throws IOException {
        String readme = Files.readString(Path.of("README.md"));
        example(readme);
        refusal();
        calls(readme);
        Bench.finish();
    }

    private static void example(String readme) {
        CodeSmith smith = new CodeSmith();
        String[] words = argumentsOf(readme, "smith.feed").split(",");
        int[] fed = new int[5];
        for (int i = 0; i < 5; i++) {
            fed[i] = Integer.decode(words[i].trim());
        }
        Bench.due("feed", smith.feed(fed[0], fed[1], fed[2], fed[3], fed[4]), true);
        Bench.due("end", smith.end(Integer.parseInt(argumentsOf(readme, "smith.end"))), true);
        Bench.due("assemble", Bench.assemble(smith), numberBehind(readme, "smith.assemble();"));
        Bench.due("image(0)", smith.image(0), numberBehind(readme, "smith.image(0);"));
        Bench.due("about(1)", smith.about(1), numberBehind(readme, "smith.about(1);"));
        Bench.due("li", Bench.number(smith, 84, 4), 0x00500513);
        Bench.due("ecall", Bench.number(smith, 88, 4), 115);
    }

    private static void refusal() {
        CodeSmith smith = new CodeSmith();
        Bench.feed(smith, "li a0, 5\necall 5\n");
        Bench.due("assemble", Bench.assemble(smith), -1);
        Bench.due("line", smith.error(0), 2);
        Bench.due("place", smith.error(1), 6);
        Bench.due("kind", smith.error(2), 1);
    }

    private static void calls(String readme) {
        for (String call : new String[] {"feed(a, b, c, d, e)", "end(n)", "size()", "assemble()", "error(what)", "image(k)",
            "about(what)"}) {
            Bench.due("README.md tells " + call, readme.contains("| `" + call + "` |"), true);
        }
        Bench.due("README.md tells how to run the tests", readme.contains("    .ci/run\n"), true);
    }

    private static String argumentsOf(String readme, String call) {
        Matcher found = Pattern.compile(Pattern.quote(call) + "\\(([^)]*)\\)").matcher(readme);
        return found.find() ? found.group(1) : "0,0,0,0,0";
    }

    private static int numberBehind(String readme, String call) {
        Matcher found = Pattern.compile(Pattern.quote(call) + " *// (\\d+)").matcher(readme);
        return found.find() ? Integer.parseInt(found.group(1)) : -3;
    }
}
