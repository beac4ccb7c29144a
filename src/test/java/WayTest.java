/** Promises 15 to 17: ways. */
final class WayTest {
    private WayTest() {
    }

    static void run(Check check) {
        check.test("15 arrives a link an hour", WayTest::plain);
        check.test("15 waits for links", WayTest::waits);
        check.test("15 of ways that arrive earliest the fewest links count", WayTest::fewest);
        check.test("15 an earlier way with more links is better", WayTest::earliest);
        check.test("15 the next station is the lowest one of the best ways alone", WayTest::lowest);
        check.test("15 no next station if all best ways wait", WayTest::waitsFirst);
        check.test("15 a station can't be left in the hour in which one comes to it", WayTest::goesOnLater);
        check.test("15 ways of more than 24 hours do not count", WayTest::dayLong);
        check.test("16 counts pairs", WayTest::reachable);
        check.test("16 pairs are ordered", WayTest::oneWay);
        check.test("17 finds the key station", WayTest::key);
        check.test("17 of several the lowest one, none without stations", WayTest::keyTies);
    }

    private static void plain() {
        ReliefNet net = Nets.row(8, 1, 0);
        Check.row(Nets.way(net, 0, 7, 0), 7, 7, 1);
        Check.row(Nets.way(net, 7, 0, 100), 107, 7, 6);
        Check.row(Nets.way(net, 3, 4, 100000), 100001, 1, 4);
        Check.row(Nets.way(net, 4, 2, 99999), 100001, 2, 3);
        net.setStation(3, 0, 12);
        Check.row(Nets.way(net, 0, 7, 0), 17, 7, 1);
    }

    private static void waits() {
        ReliefNet net = Nets.loaded("station 0 23 1;station 0 23 1;station 0 23 1;link 0 1 22 1 0;link 1 2 5 5 0;");
        Check.row(Nets.way(net, 0, 2, 0), 6, 2, 1);
        Check.row(Nets.way(net, 0, 2, 1), 6, 2, 1);
        Check.row(Nets.way(net, 0, 2, 22), 30, 2, 1);
        Check.row(Nets.way(net, 0, 2, 7), 30, 2, -1);
        Check.row(Nets.way(net, 2, 0, 4), 23, 2, -1);
        Check.row(Nets.way(net, 2, 0, 5), 23, 2, 1);
        // From 6 on the way takes the whole 24 hours, from 5 on one more.
        Check.row(Nets.way(net, 0, 2, 6), 30, 2, -1);
        Check.row(Nets.way(net, 0, 2, 5), -1, -1, -1);
        // The link of a station opens behind the other one in the same hour only for those who are there by then.
        net.setLink(0, 0, 5);
        net.setLink(0, 1, 5);
        Check.row(Nets.way(net, 0, 1, 5), 6, 1, 1);
        Check.row(Nets.way(net, 0, 2, 5), -1, -1, -1);
    }

    private static void fewest() {
        // 0-1-2-3 arrives at 3 as 0-4-3 does, whose second link opens late.
        ReliefNet net = Nets.row(4, 1, 0);
        net.addStation(0, 23, 1);
        net.addLink(0, 4, 0, 23, 0);
        net.addLink(4, 3, 2, 23, 0);
        Check.row(Nets.way(net, 0, 3, 0), 3, 2, 4);
        net.addLink(0, 3, 2, 23, 0);
        Check.row(Nets.way(net, 0, 3, 0), 3, 1, -1);
        Check.row(Nets.way(net, 0, 3, 2), 3, 1, 3);
    }

    private static void earliest() {
        ReliefNet net = Nets.row(4, 1, 0);
        net.addLink(0, 3, 3, 23, 0);
        Check.row(Nets.way(net, 0, 3, 0), 3, 3, 1);
        Check.row(Nets.way(net, 0, 3, 1), 4, 1, -1);
        Check.row(Nets.way(net, 0, 3, 3), 4, 1, 3);
    }

    private static void lowest() {
        // From 5 to 0 by 1, 2, 3 or 4; 1 comes too late, 2 has its first link later.
        ReliefNet net = new ReliefNet();
        for (int station = 0; station < 6; station++) {
            net.addStation(0, 23, 1);
        }
        net.addLink(5, 1, 0, 23, 0);
        net.addLink(1, 0, 9, 23, 0);
        net.addLink(5, 2, 1, 23, 0);
        net.addLink(5, 4, 0, 23, 0);
        net.addLink(4, 0, 2, 23, 0);
        net.addLink(3, 5, 0, 23, 0);
        net.addLink(0, 3, 2, 23, 0);
        net.addLink(0, 2, 2, 23, 0);
        Check.row(Nets.way(net, 5, 0, 0), 3, 2, 3);
        Check.row(Nets.way(net, 5, 0, 1), 3, 2, 2);
        net.setLink(5, 0, 1);
        Check.row(Nets.way(net, 5, 0, 0), 3, 2, 4);
        Check.row(Nets.way(net, 5, 0, 9), 11, 2, 1);
    }

    private static void waitsFirst() {
        // Without the longer way to 1 the way waits.
        ReliefNet net = Nets.loaded("station 0 23 1;station 0 23 1;station 0 23 1;station 0 23 1;"
                + "link 0 2 0 0 0;link 2 1 1 1 0;link 0 1 1 1 0;link 1 3 4 4 0;");
        Check.row(Nets.way(net, 0, 3, 0), 5, 2, -1);
        Check.row(Nets.way(net, 0, 3, 1), 5, 2, 1);
        Check.row(Nets.way(net, 0, 2, 0), 1, 1, 2);
    }

    private static void goesOnLater() {
        // By 1 and 2 it would be as short as by 4 and 5, but the link from 1 to 2 is gone when one comes to 1.
        ReliefNet net = Nets.loaded("station 0 23 1;station 0 23 1;station 0 23 1;station 0 23 1;station 0 23 1;"
                + "station 0 23 1;link 0 1 0 0 0;link 1 2 0 0 0;link 2 3 5 5 0;link 0 4 2 2 0;link 4 5 3 3 0;"
                + "link 5 3 5 5 0;message 0 3 0;");
        Check.row(Nets.way(net, 0, 3, 0), 6, 3, -1);
        Check.equal(-1, net.copy(0, 0, 4));
        net.setLink(1, 1, 1);
        Check.row(Nets.way(net, 0, 3, 0), 6, 3, 1);
        Check.equal(1, net.copy(0, 0, 4));
    }

    private static void dayLong() {
        ReliefNet net = Nets.loaded("station 0 23 1;station 0 23 1;station 0 23 1;link 0 1 7 7 0;link 1 2 7 7 0;");
        Check.row(Nets.way(net, 0, 1, 7), 8, 1, 1);
        Check.row(Nets.way(net, 0, 1, 8), 32, 1, -1);
        Check.row(Nets.way(net, 0, 2, 7), -1, -1, -1);
        net.setLink(1, 0, 6);
        net.setLink(1, 1, 6);
        Check.row(Nets.way(net, 0, 2, 7), 31, 2, 1);
        Check.row(Nets.way(net, 0, 2, 6), -1, -1, -1);
        Check.row(Nets.way(net, 0, 2, 8), -1, -1, -1);
    }

    private static void reachable() {
        Check.equal(0, new ReliefNet().reachable());
        Check.equal(0, Nets.row(1, 1, 0).reachable());
        Check.equal(56, Nets.row(8, 1, 0).reachable());
        ReliefNet net = Nets.row(5, 1, 0);
        net.addStation(0, 23, 1);
        Check.equal(20, net.reachable());
        net.setStation(2, 0, 3);
        net.setStation(2, 1, 3);
        // 0 and 1 come to 2, but never further within a day, and likewise 3 and 4.
        Check.equal(12, net.reachable());
    }

    private static void oneWay() {
        // At 4 the first link is gone for a day before the second one comes.
        ReliefNet net = Nets.loaded("station 0 23 1;station 0 23 1;station 0 23 1;link 0 1 3 3 0;link 1 2 6 6 0;");
        Check.equal(5, net.reachable());
        Check.equal(-1, net.way(2, 0, 0, 0));
        net.run(4);
        Check.equal(5, net.reachable());
        Check.equal(-1, net.way(0, 2, 4, 0));
        Check.equal(28, net.way(2, 0, 4, 0));
        net.run(2);
        Check.equal(5, net.reachable());
        Check.equal(28, net.way(2, 0, 6, 0));
    }

    private static void key() {
        Check.equal(1, Nets.row(3, 1, 0).keyStation());
        Check.equal(2, Nets.row(5, 1, 0).keyStation());
        ReliefNet net = Nets.row(6, 1, 0);
        net.addLink(0, 2, 0, 23, 0);
        net.addLink(1, 3, 0, 23, 0);
        // Without 4 the pairs of 0 to 3 are left, 12; without 3 there are 6 and 2 pairs.
        Check.equal(3, net.keyStation());
        net.setLink(3, 0, 20);
        net.setLink(3, 1, 20);
        net.setLink(2, 0, 20);
        net.setLink(2, 1, 20);
        Check.equal(3, net.keyStation());
    }

    private static void keyTies() {
        Check.equal(-1, new ReliefNet().keyStation());
        Check.equal(0, Nets.row(1, 1, 0).keyStation());
        Check.equal(0, Nets.row(2, 1, 0).keyStation());
        Check.equal(1, Nets.row(4, 1, 0).keyStation());
        ReliefNet net = new ReliefNet();
        for (int station = 0; station < 4; station++) {
            net.addStation(0, 23, 1);
        }
        Check.equal(0, net.keyStation());
        net.addLink(2, 3, 0, 23, 0);
        Check.equal(2, net.keyStation());
        // Four stations that all hear one another, and a row of three: without 0 as many pairs are left, 12, as
        // without the middle one of the row; the three pairs from 0 on do not count.
        ReliefNet parts = new ReliefNet();
        for (int station = 0; station < 7; station++) {
            parts.addStation(0, 23, 1);
        }
        for (int one = 0; one < 4; one++) {
            for (int other = one + 1; other < 4; other++) {
                parts.addLink(one, other, 0, 23, 0);
            }
        }
        parts.addLink(4, 5, 0, 23, 0);
        parts.addLink(5, 6, 0, 23, 0);
        Check.equal(18, parts.reachable());
        Check.equal(0, parts.keyStation());
    }
}
