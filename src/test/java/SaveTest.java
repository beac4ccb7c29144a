/** Promises 33 and 34: saved states. */
final class SaveTest {
    private SaveTest() {
    }

    static void run(Check check) {
        check.test("33, 34 brings back everything that is saved", SaveTest::everything);
        check.test("33, 34 two slots, each replaced by a later save", SaveTest::slots);
        check.test("33 does not save text, error and output", SaveTest::notSaved);
        check.test("33 refuses other slots", SaveTest::saveRefused);
        check.test("34 a state stays saved", SaveTest::staysSaved);
        check.test("34 refuses other slots, then an empty one", SaveTest::restoreRefused);
        check.test("34 a restored net goes on as the saved one", SaveTest::goesOn);
    }

    private static void everything() {
        ReliefNet net = HourTest.busy();
        net.run(9);
        String before = Picture.ofSaved(net);
        net.save(0);
        Check.equal(before, Picture.ofSaved(net));
        net.addStation(1, 2, 3);
        net.addLink(5, 0, 0, 23, 9);
        net.setStation(0, 0, 7);
        net.setLink(0, 2, 1);
        net.setRules(9, 9, 9);
        net.send(5, 0, 1);
        net.setPriority(0, 3);
        net.run(30);
        net.takeBack(4);
        net.restore(0);
        Check.equal(before, Picture.ofSaved(net));
        Nets.load(net, "");
        net.restore(0);
        Check.equal(before, Picture.ofSaved(net));
    }

    private static void slots() {
        ReliefNet net = Nets.row(2, 1, 100);
        net.save(1);
        net.run(1);
        net.save(0);
        net.run(1);
        net.restore(1);
        Check.equal(0, net.count(3));
        net.restore(0);
        Check.equal(1, net.count(3));
        net.run(6);
        net.save(0);
        net.restore(1);
        Check.equal(0, net.count(3));
        net.restore(0);
        Check.equal(7, net.count(3));
    }

    private static void notSaved() {
        ReliefNet net = Nets.row(2, 1, 100);
        net.send(0, 1, 0);
        net.run(1);
        net.write(0);
        Nets.load(net, "life 0;");
        net.save(0);
        net.write(1);
        Nets.append(net, "seed 12;;");
        Check.equal(-1, net.load());
        Nets.append(net, "seed 1");
        net.restore(0);
        Check.equal(1, net.errorCode());
        Check.equal(8, net.errorPosition());
        Check.equal("0 m0 1>0 delivered", Nets.output(net));
        Nets.append(net, "3;");
        Check.equal(1, net.load());
        Check.equal(13, net.count(6));
    }

    private static void saveRefused() throws Exception {
        ReliefNet net = Nets.row(2, 1, 100);
        for (int slot : new int[] {-1, 2, Integer.MIN_VALUE, Integer.MAX_VALUE}) {
            Check.noArgument(net, () -> net.save(slot));
        }
        Check.noState(net, () -> net.restore(0));
        Check.noState(net, () -> net.restore(1));
    }

    private static void staysSaved() {
        ReliefNet net = HourTest.busy();
        net.save(1);
        String saved = Picture.ofSaved(net);
        for (int round = 0; round < 3; round++) {
            net.run(20);
            net.takeBack(0);
            net.restore(1);
            Check.equal(saved, Picture.ofSaved(net));
        }
    }

    private static void restoreRefused() throws Exception {
        ReliefNet net = Nets.row(2, 1, 100);
        for (int slot : new int[] {-1, 2, Integer.MIN_VALUE, Integer.MAX_VALUE}) {
            Check.noArgument(net, () -> net.restore(slot));
        }
        Check.noState(net, () -> net.restore(1));
        net.save(1);
        Check.noState(net, () -> net.restore(0));
        net.restore(1);
    }

    private static void goesOn() {
        ReliefNet net = HourTest.busy();
        net.run(3);
        net.save(0);
        net.run(40);
        String due = Picture.ofSaved(net);
        Nets.load(net, "station 0 23 1;");
        net.restore(0);
        net.run(40);
        Check.equal(due, Picture.ofSaved(net));
    }
}
