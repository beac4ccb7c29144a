import java.io.ByteArrayOutputStream;
import java.io.PrintStream;
import java.nio.charset.StandardCharsets;
import java.nio.file.Files;
import java.nio.file.Path;
import java.util.ArrayList;
import java.util.List;
import java.util.regex.Matcher;
import java.util.regex.Pattern;

/** Looks whether README.md is true: its examples, and what it takes from the document. */
final class ReadmeTest {
    private static final Pattern SIGNATURE = Pattern.compile("^`[a-z]+ ([a-zA-Z]+)\\(([^)]*)\\)");
    private static final Pattern BLOCK = Pattern.compile("```([a-z]*)\n(.*?)```", Pattern.DOTALL);

    private static final Pattern WORDS = Pattern.compile("the word of the kind: (.*) or ([a-z]+)\\.");

    private ReadmeTest() {
    }

    static void run(Check check, Path readme, Path document, Path example) {
        check.test("README's examples are those of ReadmeExample", () -> examples(readme, example));
        check.test("README's examples print what it says", () -> printed(readme));
        check.test("README's wrong text", () -> wrongText(readme));
        check.test("README names every method with its parameters", () -> methods(readme, document));
        check.test("README's lists of what are the document's", () -> lists(readme, document));
        check.test("README's words of the kinds are the document's", () -> kinds(readme, document));
    }

    private static void examples(Path readme, Path example) throws Exception {
        String source = Files.readString(example).replaceAll("\n +", "\n");
        List<String> blocks = blocks(readme, "java");
        Check.equal(2, blocks.size());
        for (String block : blocks) {
            stands(block.replaceAll("\n +", "\n"), source);
        }
    }

    private static void printed(Path readme) throws Exception {
        ByteArrayOutputStream bytes = new ByteArrayOutputStream();
        PrintStream before = System.out;
        System.setOut(new PrintStream(bytes, true, StandardCharsets.US_ASCII));
        try {
            ReadmeExample.run();
        } finally {
            System.setOut(before);
        }
        String lines = bytes.toString(StandardCharsets.US_ASCII).replace(System.lineSeparator(), "\n");
        Check.equal(true, blocks(readme, "").contains(lines));
    }

    private static void wrongText(Path readme) throws Exception {
        ReliefNet net = new ReliefNet();
        Check.equal(ReliefNet.NONE, Nets.load(net, "life 48; tries 10;"));
        stands("`life 48; tries 10;` ends with the error code " + net.errorCode() + " at the error position "
                + net.errorPosition() + ",", Files.readString(readme));
    }

    private static void methods(Path readme, Path document) throws Exception {
        String text = Files.readString(readme);
        int methods = 0;
        for (String line : Files.readAllLines(document)) {
            Matcher signature = SIGNATURE.matcher(line);
            if (signature.find()) {
                stands("`" + signature.group(1) + "(" + signature.group(2).replaceAll("[a-z]+ ", "") + ")`", text);
                methods++;
            }
        }
        Check.equal(33, methods);
    }

    private static void lists(Path readme, Path document) throws Exception {
        String text = Files.readString(readme).replaceAll("\\s+", " ");
        String method = "";
        int lists = 0;
        for (String line : Files.readAllLines(document)) {
            if (line.startsWith("## ")) {
                method = line.replaceAll(".*: ", "");
            } else if (line.startsWith("- `what`: ")) {
                stands("- `" + method + "`: " + line.substring("- `what`: ".length()), text);
                lists++;
            }
        }
        Check.equal(9, lists);
    }

    private static void kinds(Path readme, Path document) throws Exception {
        Matcher words = WORDS.matcher(Files.readString(document));
        Check.equal(true, words.find());
        List<String> all = new ArrayList<>(List.of(words.group(1).split(", ")));
        all.add(words.group(2));
        Check.equal(9, all.size());
        String text = Files.readString(readme);
        for (int kind = 0; kind < all.size(); kind++) {
            stands("\n| " + kind + "    | `" + all.get(kind) + "` ", text);
        }
    }

    private static List<String> blocks(Path readme, String language) throws Exception {
        List<String> blocks = new ArrayList<>();
        Matcher block = BLOCK.matcher(Files.readString(readme));
        while (block.find()) {
            if (block.group(1).equals(language)) {
                blocks.add(block.group(2));
            }
        }
        return blocks;
    }

    private static void stands(String words, String text) {
        if (!text.contains(words)) {
            throw new AssertionError("this does not stand there: " + words);
        }
    }
}
