import java.nio.file.Path;

/** Runs every test of the project, from its folder; the arguments are the paths of the class and of the document. */
public final class AllTests {
    private AllTests() {
    }

    public static void main(String[] arguments) throws Exception {
        Check check = new Check();
        Document document = new Document(arguments[1]);
        Sentences doc = new Sentences(check, document);
        FaceSentences.run(doc, document);
        TextSentences.run(doc);
        StationSentences.run(doc);
        WaySentences.run(doc);
        MessageSentences.run(doc);
        HourSentences.run(doc);
        LogSentences.run(doc);
        doc.nothingLeft();
        SetupTextTest.run(check);
        StationLinkTest.run(check);
        WayTest.run(check);
        MessageTest.run(check);
        HourTest.run(check);
        PredictionTest.run(check);
        LogTest.run(check);
        SaveTest.run(check);
        FaceTest.run(check, arguments[0]);
        ReadmeTest.run(check, Path.of("README.md"), Path.of(arguments[1]),
                Path.of("src/test/java/ReadmeExample.java"));
        ReferenceTest.run(check);
        System.out.println(check.passed() + " passed, " + check.failed() + " failed");
        System.exit(check.failed() == 0 ? 0 : 1);
    }
}
