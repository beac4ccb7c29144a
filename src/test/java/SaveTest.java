/** Promises 33 and 34: saved states. */
final class SaveTest {
    private SaveTest() {
    }

    static void run(Check check) {
        check.test("33, 34 two slots, each replaced by a later save", SaveTest::slots);
        check.test("34 a restored net goes on as the saved one", SaveTest::goesOn);
    }

    private static void slots() {
        ReliefNet net = Nets.row(2, 1, 100);
        net.save(1);
        net.run(1);
        net.save(0);
        net.run(1);
        net.restore(1);
        Check.equal(0, net.count(3));
        net.restore(0);
        Check.equal(1, net.count(3));
        net.run(6);
        net.save(0);
        net.restore(1);
        Check.equal(0, net.count(3));
        net.restore(0);
        Check.equal(7, net.count(3));
    }

    private static void goesOn() throws Exception {
        Check.equal(Picture.ofSaved(() -> {
            ReliefNet net = HourTest.busy();
            net.run(43);
            return net;
        }), Picture.ofSaved(() -> {
            ReliefNet net = HourTest.busy();
            net.run(3);
            net.save(0);
            net.run(40);
            Nets.load(net, "station 0 23 1;");
            net.restore(0);
            net.run(40);
            return net;
        }));
    }
}
