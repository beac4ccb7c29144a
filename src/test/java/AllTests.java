/** Runs every test of the project; its only argument is the path of the class's source. */
public final class AllTests {
    private AllTests() {
    }

    public static void main(String[] arguments) throws Exception {
        Check check = new Check();
        SetupTextTest.run(check);
        StationLinkTest.run(check);
        WayTest.run(check);
        MessageTest.run(check);
        HourTest.run(check);
        PredictionTest.run(check);
        LogTest.run(check);
        SaveTest.run(check);
        FaceTest.run(check, arguments[0]);
        ReferenceTest.run(check);
        System.out.println(check.passed() + " passed, " + check.failed() + " failed");
        System.exit(check.failed() == 0 ? 0 : 1);
    }
}
