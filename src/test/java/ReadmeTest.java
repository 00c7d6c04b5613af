import java.io.IOException;
import java.lang.reflect.Method;
import java.lang.reflect.Modifier;
import java.nio.file.DirectoryStream;
import java.nio.file.Files;
import java.nio.file.Path;
import java.util.regex.Matcher;
import java.util.regex.Pattern;

/** README.md: its example's answers are the class's own, and it names each call, each refusal, each test. */
public final class ReadmeTest {
    private static final Pattern EXAMPLE = Pattern.compile("(?s)```java\n(.*?)```");
    private static final Pattern TEXT = Pattern.compile("String text = \"([^\"]*)\";");
    private static final Pattern CALL = Pattern.compile("x\\.(\\w+\\([^)]*\\)); +// (NONE|UNKNOWN|OUTSIDE|NOT|FULL|-?\\d+)(:.*)?");

    public static void main(String[] args) throws IOException {
        String readme = Files.readString(Path.of("README.md"));
        example(readme);
        namesEachCall(readme);
        refusals(readme);
        namesEachTest(readme);
        Check.end("ReadmeTest");
    }

    private static void example(String readme) {
        Matcher block = EXAMPLE.matcher(readme);
        if (!block.find()) {
            Check.fail("README.md has no example");
            return;
        }
        SaddleFit x = null;
        int asked = 0;
        boolean inLoop = false;
        for (String line : block.group(1).split("\n")) {
            Matcher text = TEXT.matcher(line);
            Matcher call = CALL.matcher(line);
            if (line.equals("SaddleFit x = new SaddleFit();")) {
                x = new SaddleFit();
            } else if (text.matches() && x != null) {
                // The loop that feeds it stands in the lines behind.
                Check.feed(x, text.group(1));
            } else if (line.startsWith("for (")) {
                inLoop = true;
            } else if (inLoop) {
                inLoop = !line.equals("}");
            } else if (call.matches() && x != null) {
                Check.due("README.md, x." + call.group(1), Says.answer(x, call.group(1).replace("SaddleFit.", "")), Says.number(call.group(2)));
                asked++;
            } else if (!line.isEmpty()) {
                Check.fail("README.md, a line of the example that cannot be read: " + line);
            }
        }
        Check.due("the example asks 30 calls or more", asked >= 30 ? 1 : 0, 1);
    }

    /** In the table of the groups: the example alone would not tell what a call is for. */
    private static void namesEachCall(String readme) {
        int from = readme.indexOf("## What the calls are for");
        int to = readme.indexOf("## What the answers mean");
        String table = from >= 0 && to > from ? readme.substring(from, to) : "";
        for (Method m : SaddleFit.class.getDeclaredMethods()) {
            if (Modifier.isPublic(m.getModifiers()) && !table.contains("`" + m.getName() + "`")) {
                Check.fail("README.md does not say what " + m.getName() + " is for");
            }
        }
        for (String group : new String[] {"the shop", "what is done", "tried", "what is felt", "draws, images"}) {
            if (!table.contains("| " + group + " |")) {
                Check.fail("README.md has no group: " + group);
            }
        }
    }

    private static void refusals(String readme) {
        String[] names = {"UNKNOWN", "OUTSIDE", "NOT", "FULL"};
        int[] numbers = {SaddleFit.UNKNOWN, SaddleFit.OUTSIDE, SaddleFit.NOT, SaddleFit.FULL};
        int at = 0;
        for (int i = 0; i < names.length; i++) {
            // Each behind the last: of several refusals it is the first of them.
            at = readme.indexOf("| `" + names[i] + "` | " + numbers[i] + " |", at);
            if (at < 0) {
                Check.fail("README.md does not tell in its place: " + names[i]);
                return;
            }
        }
    }

    private static void namesEachTest(String readme) throws IOException {
        try (DirectoryStream<Path> tests = Files.newDirectoryStream(Path.of("src/test/java"), "*Test.java")) {
            for (Path test : tests) {
                String name = test.getFileName().toString().replace(".java", "");
                if (!readme.contains("| `" + name + "` |")) {
                    Check.fail("README.md does not name " + name);
                }
            }
        }
    }
}
