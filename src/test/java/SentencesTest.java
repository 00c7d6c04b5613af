import java.io.IOException;
import java.nio.file.DirectoryStream;
import java.nio.file.Files;
import java.nio.file.Path;
import java.util.ArrayList;
import java.util.List;
import java.util.regex.Matcher;
import java.util.regex.Pattern;

/** Every sentence of the document's terms and promises is quoted by a test, and every quotation stands in the document. */
public final class SentencesTest {
    private static final Path DOCUMENT = Path.of("../shared/DOC.md"), TESTS = Path.of("src/test/java"), PROGRAM = Path.of("src/main/java/SaddleFit.java");

    /** What has its test here, or says how to read on. */
    private static final String[] HERE = {
        "Words in capitals are told where they come first.",
        "Ahead of the calls feed, shop, fault, told, burden, back the interface says: ---- the shop.",
        "Ahead of the calls day, take, share, down, hand, stuff, weigh, drift, undo the interface says: ---- what is done.",
        "Ahead of the calls sore, when, worst, fit, byTwo, order, could, shareOf, fair the interface says: ---- tried.",
        "Ahead of the calls feel, carries, tryNext, write, tear, judge the interface says: ---- what is felt.",
        "Ahead of the calls seed, keep, goBack the interface says: ---- draws, images.",
    };

    public static void main(String[] args) throws IOException {
        if (Files.exists(DOCUMENT)) {
            String document = document();
            quotations(document);
        } else {
            Check.fail("there is no document at " + DOCUMENT);
        }
        interfaceSays();
        Check.end("SentencesTest");
    }

    /** From what an object is used for to the last promise, without what only sets it out, and the face, which RulesTest has. */
    private static String document() throws IOException {
        String all = Files.readString(DOCUMENT);
        int from = all.indexOf("An object is used");
        int to = all.indexOf("## Not promised");
        if (from < 0 || to < from) {
            Check.fail("the document has no terms and promises");
            return "";
        }
        String promised = all.substring(from, to).replaceAll("(?s)```java.*?```", "");
        return promised.replaceAll("(?m)^#.*$", "").replaceAll("(?m)^```.*$", "").replaceAll("======== \\d", "").replace("`", "").replaceAll("\\s+", " ");
    }

    private static void quotations(String document) throws IOException {
        List<String> quotations = quotedByTests();
        quotations.addAll(List.of(HERE));
        boolean[] quoted = new boolean[document.length()];
        for (String quotation : quotations) {
            int at = document.indexOf(quotation);
            if (at < 0) {
                Check.fail("no longer in the document: " + quotation);
            }
            for (; at >= 0; at = document.indexOf(quotation, at + 1)) {
                java.util.Arrays.fill(quoted, at, at + quotation.length(), true);
            }
        }
        StringBuilder left = new StringBuilder();
        for (int i = 0; i <= document.length(); i++) {
            if (i < document.length() && !quoted[i]) {
                left.append(document.charAt(i));
            } else {
                if (!left.toString().isBlank()) {
                    Check.fail("no test quotes: " + left);
                }
                left.setLength(0);
            }
        }
    }

    private static List<String> quotedByTests() throws IOException {
        Pattern says = Pattern.compile("Says\\.says\\(\"([^\"]*)\"\\);");
        List<String> all = new ArrayList<>();
        try (DirectoryStream<Path> tests = Files.newDirectoryStream(TESTS, "*Test.java")) {
            for (Path test : tests) {
                Matcher m = says.matcher(Files.readString(test));
                while (m.find()) {
                    all.add(m.group(1));
                }
            }
        }
        return all;
    }

    /** Each heading of the interface stands ahead of its calls, in the document's order. */
    private static void interfaceSays() throws IOException {
        String program = Files.readString(PROGRAM);
        int at = 0;
        for (int i = 1; i < HERE.length; i++) {
            String[] parts = HERE[i].substring("Ahead of the calls ".length(), HERE[i].length() - 1).split(" the interface says: ");
            at = behind(program, "// " + parts[1] + "\n", at);
            for (String call : parts[0].split(", ")) {
                at = behind(program, "public int " + call + "(", at);
            }
        }
    }

    private static int behind(String program, String words, int from) {
        int at = program.indexOf(words, from);
        if (at < 0) {
            Check.fail("the class does not have in its place: " + words.trim());
            return from;
        }
        return at + words.length();
    }
}
