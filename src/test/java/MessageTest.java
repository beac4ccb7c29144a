/** Promises 18 to 24: messages and copies. */
final class MessageTest {
    private MessageTest() {
    }

    static void run(Check check) {
        check.test("18 sends a message", MessageTest::send);
        check.test("19 changes a priority", MessageTest::setPriority);
        check.test("20 takes copies back", MessageTest::takeBack);
        check.test("20 takes back by ascending stations, also of a delivered message", MessageTest::takeBackMany);
        check.test("21 tells a message's numbers", MessageTest::message);
        check.test("21 a later end replaces an earlier one", MessageTest::laterEnd);
        check.test("22 tells a copy's numbers", MessageTest::copy);
        check.test("22 ways of a copy do not come to its path", MessageTest::nextAvoidsPath);
        check.test("22 no next station if the best way waits", MessageTest::nextWaits);
        check.test("23 tells the path", MessageTest::path);
        check.test("24 tells what would be sent, by priorities", MessageTest::sends);
        check.test("24 tells of copies that would expire, and of stations not on the air", MessageTest::sendsEdges);
    }

    private static void send() {
        ReliefNet net = Nets.row(3, 1, 100);
        Check.equal(0, net.send(0, 2, 3));
        net.run(5);
        Check.equal(1, net.send(2, 1, 0));
        Check.row(Nets.message(net, 1), 2, 1, 0, 5, 0, -1, -1, 0, 0, 1, -1, -1);
        Check.row(Nets.copy(net, 1, 2), 1, 0, 5, 1, 1);
        Check.row(Nets.copy(net, 1, 1), 0, -1, -1, -1, -1);
        Check.row(Nets.event(net, net.count(13) - 1), 5, 0, 1, 2, -1);
        Check.row(Nets.message(net, 0), 0, 2, 3, 0, 1, 2, 2, 2, 0, 0, -1, -1);
    }

    private static void setPriority() {
        ReliefNet net = Nets.row(2, 1, 100);
        net.send(0, 1, 2);
        net.send(0, 1, 1);
        Check.equal(0, net.sends(0, 0));
        Check.equal(1, net.setPriority(1, 3));
        Check.equal(3, net.message(1, 2));
        Check.equal(1, net.sends(0, 0));
        Check.equal(3, net.setPriority(1, 0));
        Check.equal(2, net.setPriority(0, 0));
        Check.equal(0, net.sends(0, 0));
        Check.equal(0, net.setPriority(0, 0));
        net.takeBack(0);
        Check.equal(0, net.setPriority(0, 3));
        Check.equal(3, net.message(0, 2));
    }

    private static void takeBack() {
        ReliefNet net = Nets.row(3, 1, 100);
        net.send(0, 2, 0);
        net.run(1);
        Check.equal(1, net.takeBack(0));
        Check.row(Nets.copy(net, 0, 1), 3, 0, 1, 2, -1);
        Check.row(Nets.copy(net, 0, 0), 2, 0, 0, 1, -1);
        Check.row(Nets.message(net, 0), 0, 2, 0, 0, 2, -1, -1, 1, 0, 0, 1, -1);
        Check.equal("1 m0 1 back", Nets.written(net, 2));
        Check.equal(0, net.takeBack(0));
        Check.equal(3, net.count(13));
        Check.equal(0, net.run(9));
        Check.equal(2, net.message(0, 4));
    }

    private static void takeBackMany() {
        // The acknowledgements are lost: the copies at 0 and 1 still wait when the message is delivered.
        ReliefNet net = Nets.row(3, 1, 50);
        net.send(0, 2, 0);
        net.setRules(48, 9, 58);
        net.run(1);
        net.setStation(0, 0, 20);
        net.setStation(0, 1, 20);
        net.setRules(48, 9, 58);
        net.run(1);
        Check.equal(1, net.message(0, 4));
        Check.equal(2, net.message(0, 9));
        Check.equal(2, net.takeBack(0));
        Check.equal(1, net.message(0, 4));
        Check.row(Nets.message(net, 0), 0, 2, 0, 0, 1, 2, 2, 2, 0, 0, 1, -1);
        Check.equal("2 m0 0 back", Nets.written(net, net.count(13) - 2));
        Check.equal("2 m0 1 back", Nets.written(net, net.count(13) - 1));
    }

    private static void message() {
        ReliefNet net = Nets.row(4, 1, 100);
        net.run(2);
        net.send(0, 3, 1);
        net.run(2);
        Check.row(Nets.message(net, 0), 0, 3, 1, 2, 0, -1, -1, 2, 0, 1, -1, -1);
        net.run(1);
        Check.row(Nets.message(net, 0), 0, 3, 1, 2, 1, 5, 3, 3, 0, 0, -1, -1);
        net.run(60);
        Check.row(Nets.message(net, 0), 0, 3, 1, 2, 1, 5, 3, 3, 0, 0, -1, -1);
        // What has ended stays so, whatever the messages beside it do.
        net.send(0, 3, 0);
        net.send(0, 3, 0);
        net.send(0, 3, 0);
        net.takeBack(2);
        Check.equal(0, net.message(1, 4));
        Check.equal(2, net.message(2, 4));
        Check.equal(0, net.message(3, 4));
        Check.row(new int[] {net.count(7), net.count(8), net.count(9)}, 2, 1, 1);
        // 58 draws 19, 50: got, not acknowledged; the copy of 0 is sent again and found double.
        ReliefNet twice = Nets.row(2, 1, 50);
        twice.setRules(48, 9, 58);
        twice.send(0, 1, 0);
        twice.run(1);
        Check.row(Nets.message(twice, 0), 0, 1, 0, 0, 1, 1, 1, 1, 0, 1, -1, -1);
        twice.setRules(48, 9, 68);
        twice.run(1);
        Check.row(Nets.message(twice, 0), 0, 1, 0, 0, 1, 1, 1, 2, 1, 0, -1, -1);
    }

    private static void laterEnd() {
        ReliefNet net = Nets.row(3, 1, 50);
        net.send(0, 2, 0);
        net.setRules(48, 1, 58);
        net.run(1);
        // The copy of 0 is stopped after its only try, the one of 1 goes on.
        Check.row(Nets.message(net, 0), 0, 2, 0, 0, 0, -1, -1, 1, 0, 1, 0, 1);
        Check.equal(3, net.copy(0, 0, 0));
        net.setRules(48, 1, 35);
        net.run(1);
        Check.row(Nets.message(net, 0), 0, 2, 0, 0, 2, -1, -1, 2, 0, 0, 1, 2);
        ReliefNet back = Nets.row(3, 1, 50);
        back.send(0, 2, 0);
        back.setRules(48, 1, 58);
        back.run(1);
        back.takeBack(0);
        Check.row(Nets.message(back, 0), 0, 2, 0, 0, 2, -1, -1, 1, 0, 0, 1, -1);
        ReliefNet old = Nets.row(3, 1, 50);
        old.send(0, 2, 0);
        old.setRules(1, 1, 58);
        old.run(2);
        Check.row(Nets.message(old, 0), 0, 2, 0, 0, 2, -1, -1, 1, 0, 0, 1, -1);
    }

    private static void copy() {
        ReliefNet net = Nets.row(4, 1, 100);
        net.setLink(2, 2, 0);
        net.run(3);
        net.send(0, 3, 0);
        Check.row(Nets.copy(net, 0, 0), 1, 0, 3, 1, 1);
        net.run(2);
        Check.row(Nets.copy(net, 0, 0), 2, 0, 3, 1, -1);
        Check.row(Nets.copy(net, 0, 1), 2, 0, 4, 2, -1);
        Check.row(Nets.copy(net, 0, 2), 1, 0, 5, 3, 3);
        Check.row(Nets.copy(net, 0, 3), 0, -1, -1, -1, -1);
        net.run(2);
        Check.row(Nets.copy(net, 0, 2), 1, 2, 5, 3, 3);
        net.setLink(2, 0, 9);
        Check.row(Nets.copy(net, 0, 2), 1, 2, 5, 3, -1);
        net.setLink(2, 0, 0);
        net.setLink(2, 2, 100);
        net.run(1);
        Check.row(Nets.copy(net, 0, 2), 2, 2, 5, 3, -1);
        Check.row(Nets.copy(net, 0, 3), 5, 0, 8, 4, -1);
        net.setRules(1, 1, 1);
        net.send(3, 0, 0);
        net.setLink(2, 0, 20);
        net.setLink(2, 1, 20);
        net.run(2);
        Check.row(Nets.copy(net, 1, 3), 4, 0, 8, 1, -1);
    }

    private static void nextAvoidsPath() {
        // 0-1-2 and 0-3: at 1 the link to 2 is closed for long; the way back by 0 and 3 would be earlier.
        ReliefNet net = Nets.row(3, 1, 100);
        net.addStation(0, 23, 1);
        net.send(0, 2, 0);
        net.run(1);
        net.addLink(0, 3, 0, 23, 100);
        net.addLink(3, 2, 0, 23, 100);
        net.setLink(1, 0, 20);
        Check.row(Nets.way(net, 1, 2, 1), 4, 3, 0);
        Check.equal(-1, net.copy(0, 1, 4));
        Check.equal(-1, net.sends(1, 0));
        net.addLink(1, 3, 0, 23, 100);
        Check.equal(3, net.copy(0, 1, 4));
        Check.equal(0, net.sends(1, 0));
        net.run(1);
        Check.equal(2, net.copy(0, 3, 4));
    }

    private static void nextWaits() {
        // From 0 to 3 by 1 and 2 at once, or by the link that opens at 2: both arrive at 3.
        ReliefNet net = Nets.row(4, 1, 100);
        net.addLink(0, 3, 2, 23, 100);
        net.send(0, 3, 0);
        Check.equal(-1, net.copy(0, 0, 4));
        Check.equal(-1, net.sends(0, 0));
        net.run(2);
        Check.equal(0, net.count(11));
        Check.equal(3, net.copy(0, 0, 4));
        Check.equal(1, net.run(1));
        Check.equal(1, net.message(0, 6));
    }

    private static void path() {
        ReliefNet net = Nets.row(8, 1, 100);
        net.send(7, 0, 0);
        net.run(7);
        for (int station = 0; station < 8; station++) {
            Check.equal(8 - station, net.copy(0, station, 3));
            for (int index = 0; index < 8 - station; index++) {
                Check.equal(7 - index, net.path(0, station, index));
            }
        }
        Check.equal(7, net.message(0, 6));
    }

    private static void sends() {
        ReliefNet net = Nets.row(3, 4, 100);
        net.addStation(0, 23, 9);
        int[] priorities = {1, 3, 0, 3, 2, 1};
        for (int priority : priorities) {
            net.send(1, priority == 2 ? 0 : 2, priority);
        }
        net.send(1, 3, 3);
        // The message to 3 has no way.
        Check.equal("1 3 4 0 ", Nets.sent(net, 1));
        Check.equal(-1, net.sends(1, 4));
        Check.equal(-1, net.sends(1, Integer.MAX_VALUE));
        net.setStation(1, 2, 9);
        Check.equal("1 3 4 0 5 2 ", Nets.sent(net, 1));
        net.setLink(1, 0, 1);
        Check.equal("4 ", Nets.sent(net, 1));
        Check.equal("", Nets.sent(net, 0));
        net.setLink(1, 0, 0);
        net.setStation(1, 2, 2);
        net.run(1);
        Check.equal("4 0 ", Nets.sent(net, 1));
    }

    private static void sendsEdges() {
        ReliefNet net = Nets.row(2, 4, 0);
        net.setRules(2, 9, 1);
        net.send(0, 1, 0);
        net.run(2);
        Check.equal("0 ", Nets.sent(net, 0));
        net.setStation(0, 0, 3);
        Check.equal("", Nets.sent(net, 0));
        net.setStation(0, 0, 2);
        Check.equal("0 ", Nets.sent(net, 0));
        net.setStation(1, 0, 3);
        Check.equal("", Nets.sent(net, 0));
        net.setStation(1, 0, 0);
        net.run(1);
        Check.equal("", Nets.sent(net, 0));
        Check.equal(4, net.copy(0, 0, 0));
    }
}
