/** Promises 30 to 32: the log and the output. */
final class LogTest {
    private LogTest() {
    }

    static void run(Check check) {
        check.test("30 tells an event's numbers", LogTest::event);
        check.test("30 keeps the latest 40 events", LogTest::latest);
        check.test("31 writes every kind", LogTest::kinds);
        check.test("32 tells the bytes of the output", LogTest::output);
    }

    private static void event() {
        ReliefNet net = Nets.row(3, 1, 100);
        net.run(7);
        net.send(2, 0, 0);
        net.send(1, 0, 0);
        net.run(1);
        Check.row(Nets.event(net, 0), 7, 0, 0, 2, -1);
        Check.row(Nets.event(net, 1), 7, 0, 1, 1, -1);
        Check.row(Nets.event(net, 2), 7, 5, 1, 0, 1);
        Check.row(Nets.event(net, 3), 7, 1, 1, 1, 0);
        Check.row(Nets.event(net, 4), 7, 1, 0, 2, 1);
        Check.equal(5, net.count(13));
    }

    private static void latest() {
        ReliefNet net = Nets.row(2, 9, 100);
        for (int message = 0; message < 20; message++) {
            net.send(0, 1, 0);
            net.takeBack(message);
        }
        Check.equal(40, net.count(13));
        Check.equal("0 m0 0 born", Nets.written(net, 0));
        Check.equal("0 m19 0 back", Nets.written(net, 39));
        net.run(1);
        net.send(1, 0, 0);
        Check.equal(40, net.count(13));
        Check.equal("0 m0 0 back", Nets.written(net, 0));
        Check.equal("1 m20 1 born", Nets.written(net, 39));
        net.run(1);
        Check.equal("0 m1 0 back", Nets.written(net, 0));
        Check.equal("1 m20 0>1 delivered", Nets.written(net, 38));
        Check.equal("1 m20 1>0 passed", Nets.written(net, 39));
        for (int message = 21; message < 24; message++) {
            net.send(1, 0, 0);
        }
        net.run(1);
        Check.equal("0 m6 0 born", Nets.written(net, 0));
        Check.equal("2 m23 1>0 passed", Nets.written(net, 39));
    }

    private static void kinds() {
        ReliefNet net = Nets.row(2, 1, 50);
        net.setRules(48, 2, 58);
        net.send(0, 1, 0);
        net.run(1);
        net.setRules(48, 2, 58);
        net.run(1);
        Check.equal("0 m0 0 born; 0 m0 1>0 delivered; 0 m0 0>1 unsure; "
                + "1 m0 1>0 double; 1 m0 0>1 unsure; 1 m0 0>1 stopped", Nets.log(net));
        int[] kinds = {0, 5, 3, 4, 3, 6};
        for (int event = 0; event < kinds.length; event++) {
            Check.equal(kinds[event], net.event(event, 1));
        }
        ReliefNet other = Nets.row(2, 1, 50);
        other.setRules(2, 2, 35);
        other.send(1, 0, 0);
        other.run(1);
        other.setRules(2, 2, 68);
        other.run(1);
        other.setRules(1, 2, 68);
        other.setStation(0, 0, 20);
        other.send(0, 1, 0);
        other.send(1, 0, 0);
        other.takeBack(2);
        other.run(2);
        Check.equal("0 m0 1 born; 0 m0 1>0 lost; 1 m0 0>1 delivered; 1 m0 1>0 passed; 2 m1 0 born; 2 m2 1 born; "
                + "2 m2 1 back; 3 m1 0 expired", Nets.log(other));
        kinds = new int[] {0, 2, 5, 1, 0, 0, 8, 7};
        for (int event = 0; event < kinds.length; event++) {
            Check.equal(kinds[event], other.event(event, 1));
        }
    }

    private static void output() {
        ReliefNet net = Nets.row(2, 1, 100);
        Check.equal(-1, net.output(0));
        net.send(0, 1, 0);
        net.run(1);
        Check.equal("0 m0 1>0 delivered", Nets.written(net, 1));
        Check.equal((int) '0', net.output(0));
        Check.equal((int) ' ', net.output(1));
        Check.equal((int) 'd', net.output(17));
        for (int index : new int[] {18, 64, -1, Integer.MIN_VALUE, Integer.MAX_VALUE}) {
            Check.equal(-1, net.output(index));
        }
        // A shorter output leaves nothing of the longer one.
        Check.equal(11, net.write(0));
        Check.equal(-1, net.output(11));
        net.run(5);
        Check.equal("0 m0 0 born", Nets.output(net));
    }
}
