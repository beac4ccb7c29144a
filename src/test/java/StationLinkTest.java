/** Promises 7 to 14: stations, links, settings and their numbers. */
final class StationLinkTest {
    private StationLinkTest() {
    }

    static void run(Check check) {
        check.test("7 adds stations", StationLinkTest::addStation);
        check.test("8 adds links", StationLinkTest::addLink);
        check.test("9 changes a station", StationLinkTest::setStation);
        check.test("10 changes a link", StationLinkTest::setLink);
        check.test("11 sets the rules", StationLinkTest::setRules);
        check.test("11 lowered tries stop a copy at its next try", StationLinkTest::loweredTries);
        check.test("12 tells a station's numbers", StationLinkTest::station);
        check.test("12 tells in which hours a station is on the air", StationLinkTest::onAir);
        check.test("13 tells a link's numbers", StationLinkTest::link);
        check.test("13 tells in which hours a link is open", StationLinkTest::open);
        check.test("14 counts", StationLinkTest::count);
    }

    private static void addStation() {
        ReliefNet net = new ReliefNet();
        Check.equal(0, net.addStation(0, 23, 1));
        Check.equal(1, net.addStation(23, 0, 9));
        Check.equal(2, net.addStation(7, 8, 5));
        Check.row(Nets.station(net, 0), 0, 23, 1, 1, 0, 0, 0, 0, 0, 0);
        Check.row(Nets.station(net, 1), 23, 0, 9, 1, 0, 0, 0, 0, 0, 0);
        Check.row(Nets.station(net, 2), 7, 8, 5, 0, 0, 0, 0, 0, 0, 0);
    }

    private static void addLink() {
        ReliefNet net = new ReliefNet();
        net.addStation(0, 23, 1);
        net.addStation(0, 23, 1);
        net.addStation(0, 23, 1);
        Check.equal(0, net.addLink(2, 0, 0, 23, 0));
        Check.equal(1, net.addLink(1, 2, 23, 0, 100));
        Check.row(Nets.link(net, 0), 2, 0, 0, 23, 0, 1, 0, 0, 0);
        Check.row(Nets.link(net, 1), 1, 2, 23, 0, 100, 1, 0, 0, 0);
        Check.equal(2, net.station(2, 9));
        Check.equal(1, net.station(0, 9));
        Check.row(Nets.way(net, 0, 2, 5), 6, 1, 2);
        Check.row(Nets.way(net, 2, 0, 5), 6, 1, 0);
    }

    private static void setStation() {
        ReliefNet net = Nets.row(2, 4, 100);
        Check.equal(0, net.setStation(1, 0, 23));
        Check.equal(23, net.setStation(1, 1, 0));
        Check.equal(4, net.setStation(1, 2, 9));
        Check.row(Nets.station(net, 1), 23, 0, 9, 1, 0, 0, 0, 0, 0, 1);
        Check.equal(9, net.setStation(1, 2, 1));
        Check.equal(23, net.setStation(1, 0, 0));
        Check.equal(0, net.setStation(1, 1, 23));
        Check.row(Nets.station(net, 1), 0, 23, 1, 1, 0, 0, 0, 0, 0, 1);
        // Links are open, and ways go, by the new hours at once.
        net.setStation(0, 0, 5);
        Check.equal(0, net.link(0, 5));
        Check.row(Nets.way(net, 1, 0, 0), 6, 1, -1);
        net.setStation(1, 1, 4);
        Check.row(Nets.way(net, 1, 0, 0), -1, -1, -1);
    }

    private static void setLink() {
        ReliefNet net = Nets.row(3, 4, 30);
        Check.equal(0, net.setLink(1, 0, 23));
        Check.equal(23, net.setLink(1, 1, 0));
        Check.equal(30, net.setLink(1, 2, 100));
        Check.row(Nets.link(net, 1), 1, 2, 23, 0, 100, 1, 0, 0, 0);
        Check.row(Nets.link(net, 0), 0, 1, 0, 23, 30, 1, 0, 0, 0);
        Check.row(Nets.way(net, 1, 2, 1), 24, 1, -1);
        Check.equal(100, net.setLink(1, 2, 0));
        Check.equal(23, net.setLink(1, 0, 0));
        Check.equal(0, net.setLink(1, 1, 23));
        Check.row(Nets.link(net, 1), 1, 2, 0, 23, 0, 1, 0, 0, 0);
        Check.row(Nets.way(net, 1, 2, 1), 2, 1, 2);
    }

    private static void setRules() {
        ReliefNet net = Nets.row(2, 1, 50);
        net.setRules(1, 1, 0);
        Check.row(new int[] {net.count(4), net.count(5), net.count(6)}, 1, 1, 0);
        net.setRules(200, 9, 1000002);
        Check.row(new int[] {net.count(4), net.count(5), net.count(6)}, 200, 9, 1000002);
        net.send(0, 1, 0);
        net.run(1);
        // The draws are 42 and 35.
        Check.equal("0 m0 0 born; 0 m0 1>0 delivered; 0 m0 0>1 passed", Nets.log(net));
        Check.equal(412235, net.count(6));
    }

    private static void loweredTries() {
        ReliefNet net = Nets.row(2, 1, 0);
        net.setRules(48, 9, 1);
        net.send(0, 1, 0);
        net.run(4);
        net.setRules(48, 2, 1);
        Check.equal(1, net.copy(0, 0, 0));
        Check.equal(4, net.copy(0, 0, 1));
        net.run(1);
        Check.row(Nets.copy(net, 0, 0), 3, 5, 0, 1, -1);
    }

    private static void station() {
        ReliefNet net = Nets.row(4, 3, 100);
        net.send(0, 2, 1);
        net.send(0, 2, 1);
        net.send(3, 0, 0);
        Check.row(Nets.station(net, 0), 0, 23, 3, 1, 2, 0, 0, 0, 0, 1);
        net.run(1);
        Check.row(Nets.station(net, 0), 0, 23, 3, 1, 0, 2, 0, 0, 0, 1);
        Check.row(Nets.station(net, 1), 0, 23, 3, 1, 2, 0, 2, 0, 0, 2);
        Check.row(Nets.station(net, 2), 0, 23, 3, 1, 1, 0, 1, 0, 0, 2);
        net.run(2);
        Check.row(Nets.station(net, 0), 0, 23, 3, 1, 0, 2, 1, 0, 1, 1);
        Check.row(Nets.station(net, 1), 0, 23, 3, 1, 0, 3, 3, 0, 0, 2);
        Check.row(Nets.station(net, 2), 0, 23, 3, 1, 0, 1, 3, 0, 2, 2);
        Check.row(Nets.station(net, 3), 0, 23, 3, 1, 0, 1, 0, 0, 0, 1);
    }

    private static void onAir() {
        ReliefNet net = new ReliefNet();
        net.addStation(5, 7, 1);
        net.addStation(22, 1, 1);
        net.addStation(9, 9, 1);
        net.addStation(9, 8, 1);
        for (int time = 0; time < 50; time++) {
            int hour = time % 24;
            Check.equal(hour >= 5 && hour <= 7 ? 1 : 0, net.station(0, 3));
            Check.equal(hour >= 22 || hour <= 1 ? 1 : 0, net.station(1, 3));
            Check.equal(hour == 9 ? 1 : 0, net.station(2, 3));
            Check.equal(1, net.station(3, 3));
            net.run(1);
        }
    }

    private static void link() {
        ReliefNet net = Nets.row(3, 9, 100);
        net.setLink(1, 2, 0);
        net.send(0, 2, 0);
        net.send(1, 0, 0);
        net.run(2);
        Check.row(Nets.link(net, 0), 0, 1, 0, 23, 100, 1, 2, 0, 0);
        Check.row(Nets.link(net, 1), 1, 2, 0, 23, 0, 1, 1, 1, 0);
        net.setLink(1, 2, 50);
        // 4 draws 57: lost; 58 draws 19 and 50: got, but not acknowledged.
        net.setRules(48, 9, 4);
        net.run(1);
        net.setRules(48, 9, 58);
        net.run(1);
        Check.row(Nets.link(net, 1), 1, 2, 0, 23, 50, 1, 3, 2, 1);
    }

    private static void open() {
        ReliefNet net = new ReliefNet();
        net.addStation(0, 20, 1);
        net.addStation(4, 23, 1);
        net.addStation(23, 9, 1);
        net.addLink(0, 1, 2, 6, 0);
        net.addLink(1, 2, 8, 23, 0);
        net.addLink(0, 2, 19, 5, 0);
        for (int time = 0; time < 30; time++) {
            int hour = time % 24;
            Check.equal(hour >= 4 && hour <= 6 ? 1 : 0, net.link(0, 5));
            Check.equal(hour == 8 || hour == 9 || hour == 23 ? 1 : 0, net.link(1, 5));
            Check.equal(hour <= 5 ? 1 : 0, net.link(2, 5));
            net.run(1);
        }
    }

    private static void count() {
        ReliefNet net = Nets.row(3, 9, 100);
        net.setRules(10, 2, 77);
        net.send(0, 2, 0);
        net.send(0, 1, 0);
        net.send(1, 2, 0);
        net.takeBack(2);
        Check.row(Nets.counts(net), 3, 2, 3, 0, 10, 2, 77, 2, 0, 1, 2, 0, 0, 4);
        net.run(1);
        Check.equal(1, net.count(3));
        Check.equal(1, net.count(7));
        Check.equal(1, net.count(8));
        Check.equal(1, net.count(9));
        Check.equal(1, net.count(10));
        Check.equal(2, net.count(11));
        Check.equal(0, net.count(12));
        Check.equal(7, net.count(13));
        net.run(30);
        Check.equal(31, net.count(3));
        Check.equal(2, net.count(8));
    }
}
