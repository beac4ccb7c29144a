final class ReferenceTest {
    static void run(Check check) {
    }
}
