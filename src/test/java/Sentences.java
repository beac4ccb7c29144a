/**
 * Tests that each belong to a sentence of the document, or to a part of one. The words have to stand in the
 * document, and at the end no words of it may be left without a test, or without having been called plain.
 */
final class Sentences {
    private final Check check;
    private final Document document;
    private String section = "";

    Sentences(Check check, Document document) {
        this.check = check;
        this.document = document;
    }

    void section(String name) {
        section = name;
    }

    void says(String words, Check.Body body) {
        check.test(section + " \"" + words + "\"", () -> {
            document.quote(section, words);
            body.run();
        });
    }

    /** These words name nothing that a test of their own could ask for. */
    void plain(String... quotes) {
        for (String words : quotes) {
            try {
                document.quote(section, words);
            } catch (AssertionError unknown) {
                check.test(section + " \"" + words + "\"", () -> {
                    throw unknown;
                });
            }
        }
    }

    void nothingLeft() {
        for (String name : document.sections()) {
            check.test(name + " has no words without a test",
                    () -> Check.equal(java.util.List.of(), document.unquoted(name)));
        }
    }
}
