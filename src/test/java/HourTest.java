/** Promise 25: an hour, its draws and its order. Draws: 35: 50; 58: 19, 50; 68: 49, 4; 1: 48, 47, 90, 39. */
final class HourTest {
    private HourTest() {
    }

    static void run(Check check) {
        check.test("25 time passes", HourTest::time);
        check.test("25 counts the messages that are delivered in these hours", HourTest::delivered);
        check.test("25 a draw that is not less than the quality loses the frame", HourTest::frameLost);
        check.test("25 a frame that is acknowledged is passed on", HourTest::passed);
        check.test("25 a lost acknowledgement, and the duplicate that follows", HourTest::unsure);
        check.test("25 a duplicate whose acknowledgement is lost, and the stop", HourTest::duplicateStopped);
        check.test("25 a copy is stopped with TRIES tries", HourTest::stopped);
        check.test("25 copies expire before anything is sent", HourTest::expired);
        check.test("25 copies expire by ascending messages, then stations", HourTest::expiryOrder);
        check.test("25 stations send by ascending numbers", HourTest::stationOrder);
        check.test("25 a frame goes one link in an hour", HourTest::oneLink);
        check.test("25 RATE and priorities", HourTest::rates);
        check.test("25 copies of a delivered message are still sent", HourTest::stillSent);
        check.test("25 a copy of any state makes a duplicate", HourTest::anyState);
        check.test("25 expired copies take no draws, and no frame takes no draw", HourTest::noDraws);
    }

    private static void time() {
        ReliefNet net = new ReliefNet();
        Check.equal(0, net.run(1));
        Check.equal(1, net.count(3));
        Check.equal(0, net.run(72));
        Check.equal(73, net.count(3));
        Check.equal(1, net.count(6));
    }

    private static void delivered() {
        ReliefNet net = Nets.row(3, 9, 100);
        net.send(0, 1, 0);
        net.send(0, 2, 0);
        net.send(2, 1, 0);
        Check.equal(2, net.run(1));
        Check.equal(1, net.run(1));
        Check.equal(0, net.run(1));
        net.send(2, 0, 0);
        Check.equal(1, net.run(72));
        Check.equal(4, net.count(8));
    }

    private static void frameLost() {
        ReliefNet net = Nets.row(2, 1, 50);
        net.setRules(48, 9, 35);
        net.send(0, 1, 0);
        Check.equal(0, net.run(1));
        Check.equal("0 m0 0 born; 0 m0 0>1 lost", Nets.log(net));
        Check.row(Nets.copy(net, 0, 0), 1, 1, 0, 1, 1);
        Check.row(Nets.copy(net, 0, 1), 0, -1, -1, -1, -1);
        Check.row(Nets.station(net, 0), 0, 23, 1, 1, 1, 1, 0, 0, 0, 1);
        Check.row(Nets.station(net, 1), 0, 23, 1, 1, 0, 0, 0, 0, 0, 1);
        // A lost frame takes one draw.
        Check.equal((1103 * 35 + 12345) % 1000003, net.count(6));
    }

    private static void passed() {
        ReliefNet net = Nets.row(2, 1, 50);
        net.setRules(48, 9, 68);
        net.send(0, 1, 0);
        Check.equal(1, net.run(1));
        Check.equal("0 m0 0 born; 0 m0 1>0 delivered; 0 m0 0>1 passed", Nets.log(net));
        Check.row(Nets.copy(net, 0, 0), 2, 0, 0, 1, -1);
        Check.row(Nets.copy(net, 0, 1), 5, 0, 1, 2, -1);
        int first = (1103 * 68 + 12345) % 1000003;
        Check.equal((int) ((1103L * first + 12345) % 1000003), net.count(6));
    }

    private static void unsure() {
        ReliefNet net = Nets.row(2, 1, 50);
        net.setRules(48, 9, 58);
        net.send(0, 1, 0);
        Check.equal(1, net.run(1));
        Check.equal("0 m0 0 born; 0 m0 1>0 delivered; 0 m0 0>1 unsure", Nets.log(net));
        Check.row(Nets.copy(net, 0, 0), 1, 1, 0, 1, 1);
        net.setRules(48, 9, 68);
        Check.equal(0, net.run(1));
        Check.equal("1 m0 1>0 double", Nets.written(net, 3));
        Check.equal("1 m0 0>1 passed", Nets.written(net, 4));
        Check.equal(5, net.count(13));
        Check.row(Nets.copy(net, 0, 0), 2, 1, 0, 1, -1);
        Check.row(Nets.copy(net, 0, 1), 5, 0, 1, 2, -1);
        Check.row(Nets.station(net, 1), 0, 23, 1, 1, 0, 0, 2, 1, 1, 1);
        Check.equal(1, net.count(12));
    }

    private static void duplicateStopped() {
        ReliefNet net = Nets.row(3, 1, 50);
        net.setRules(48, 2, 58);
        net.send(0, 2, 0);
        net.run(1);
        net.setStation(1, 0, 1);
        net.setStation(2, 0, 5);
        net.setRules(48, 2, 58);
        net.run(1);
        Check.equal("0 m0 0 born; 0 m0 0>1 unsure; 1 m0 1>0 double; 1 m0 0>1 unsure; 1 m0 0>1 stopped", Nets.log(net));
        Check.row(Nets.copy(net, 0, 0), 3, 2, 0, 1, -1);
        Check.row(Nets.copy(net, 0, 1), 1, 0, 1, 2, -1);
        Check.row(Nets.message(net, 0), 0, 2, 0, 0, 0, -1, -1, 2, 1, 1, 0, 1);
        Check.row(Nets.link(net, 0), 0, 1, 0, 23, 50, 1, 2, 0, 2);
    }

    private static void stopped() {
        ReliefNet net = Nets.row(2, 1, 0);
        net.send(0, 1, 0);
        net.run(2);
        Check.equal(1, net.copy(0, 0, 0));
        net.run(1);
        Check.row(Nets.copy(net, 0, 0), 3, 3, 0, 1, -1);
        Check.equal("0 m0 0 born; 0 m0 0>1 lost; 1 m0 0>1 lost; 2 m0 0>1 lost; 2 m0 0>1 stopped", Nets.log(net));
        Check.row(Nets.message(net, 0), 0, 1, 0, 0, 2, -1, -1, 3, 0, 0, 0, 1);
        net.run(5);
        Check.equal(3, net.count(11));
        ReliefNet once = Nets.row(2, 1, 0);
        once.setRules(48, 1, 1);
        once.send(0, 1, 0);
        once.run(1);
        Check.row(Nets.copy(once, 0, 0), 3, 1, 0, 1, -1);
    }

    private static void expired() {
        ReliefNet net = Nets.row(2, 1, 0);
        net.setRules(2, 9, 1);
        net.send(0, 1, 0);
        net.run(2);
        Check.equal(1, net.copy(0, 0, 0));
        net.run(1);
        Check.equal("0 m0 0 born; 0 m0 0>1 lost; 1 m0 0>1 lost; 2 m0 0 expired", Nets.log(net));
        Check.row(Nets.message(net, 0), 0, 1, 0, 0, 2, -1, -1, 2, 0, 0, 0, -1);
        Check.row(Nets.event(net, 3), 2, 7, 0, 0, -1);
        // By default that is after 48 hours, and it counts from the birth.
        ReliefNet wait = new ReliefNet();
        wait.addStation(0, 0, 1);
        wait.addStation(1, 1, 1);
        wait.run(10);
        wait.send(0, 1, 0);
        wait.run(48);
        Check.equal(0, wait.message(0, 4));
        wait.run(1);
        Check.equal("58 m0 0 expired", Nets.written(wait, 1));
        Check.equal(2, wait.message(0, 4));
    }

    private static void expiryOrder() {
        ReliefNet net = Nets.row(3, 9, 50);
        net.setRules(48, 9, 58);
        net.send(1, 2, 0);
        net.takeBack(0);
        net.send(0, 2, 0);
        net.run(1);
        net.send(2, 0, 0);
        // Message 1 waits at 0 and 1, message 2 at 2.
        net.setRules(1, 9, 1);
        net.setStation(0, 2, 1);
        for (int station = 0; station < 3; station++) {
            net.setStation(station, 0, 23);
        }
        net.run(1);
        int last = net.count(13) - 1;
        Check.equal("1 m1 1 expired", Nets.written(net, last));
        Check.equal("1 m1 0 expired", Nets.written(net, last - 1));
        Check.equal("1 m2 2 born", Nets.written(net, last - 2));
        net.run(1);
        Check.equal("2 m2 2 expired", Nets.written(net, last + 1));
        ReliefNet many = Nets.row(3, 9, 50);
        many.send(2, 1, 0);
        many.send(0, 1, 3);
        many.setRules(1, 9, 1);
        for (int station = 0; station < 3; station++) {
            many.setStation(station, 0, 23);
        }
        many.run(2);
        Check.equal("0 m0 2 born; 0 m1 0 born; 1 m0 2 expired; 1 m1 0 expired", Nets.log(many));
    }

    private static void stationOrder() {
        ReliefNet net = Nets.row(3, 9, 100);
        net.send(2, 1, 3);
        net.send(0, 1, 0);
        net.send(1, 0, 0);
        net.run(1);
        Check.equal("0 m0 2 born; 0 m1 0 born; 0 m2 1 born; 0 m1 1>0 delivered; 0 m1 0>1 passed; "
                + "0 m2 0>1 delivered; 0 m2 1>0 passed; 0 m0 1>2 delivered; 0 m0 2>1 passed", Nets.log(net));
    }

    private static void oneLink() {
        ReliefNet net = Nets.row(3, 9, 100);
        net.send(0, 2, 0);
        net.run(1);
        Check.row(Nets.copy(net, 0, 1), 1, 0, 1, 2, 2);
        Check.equal(1, net.count(11));
        Check.equal("0 m0 0 born; 0 m0 0>1 passed", Nets.log(net));
        net.run(1);
        Check.equal("1 m0 2>1 delivered", Nets.written(net, 2));
    }

    private static void rates() {
        ReliefNet net = Nets.row(2, 2, 100);
        for (int priority : new int[] {0, 1, 3, 1, 2}) {
            net.send(0, 1, priority);
        }
        Check.equal(2, net.run(1));
        Check.equal("0 m2 1>0 delivered", Nets.written(net, 5));
        Check.equal("0 m4 1>0 delivered", Nets.written(net, 7));
        Check.equal(2, net.run(1));
        Check.equal("1 m1 1>0 delivered", Nets.written(net, 9));
        Check.equal("1 m3 1>0 delivered", Nets.written(net, 11));
        Check.equal(1, net.run(1));
        // A lost frame takes its place of the RATE all the same.
        ReliefNet lost = Nets.row(2, 1, 0);
        lost.send(0, 1, 0);
        lost.send(0, 1, 0);
        lost.run(1);
        Check.equal(1, lost.count(11));
        Check.equal(1, lost.copy(0, 0, 1));
        Check.equal(0, lost.copy(1, 0, 1));
    }

    private static void stillSent() {
        ReliefNet net = Nets.row(2, 1, 50);
        net.setRules(48, 2, 58);
        net.send(0, 1, 0);
        net.run(1);
        Check.equal(1, net.message(0, 4));
        net.setRules(48, 2, 35);
        net.run(1);
        Check.row(Nets.message(net, 0), 0, 1, 0, 0, 1, 1, 1, 2, 0, 0, 0, 1);
        Check.equal(3, net.copy(0, 0, 0));
        Check.equal(2, net.count(11));
        ReliefNet old = Nets.row(2, 1, 50);
        old.setRules(1, 2, 58);
        old.send(0, 1, 0);
        old.run(2);
        Check.equal(4, old.copy(0, 0, 0));
        Check.equal(1, old.message(0, 4));
    }

    private static void anyState() {
        // 0 sends to 1 unsure; 1 passes on; then 0 sends to 1 again.
        ReliefNet net = Nets.row(4, 1, 50);
        net.setLink(1, 2, 100);
        net.send(0, 3, 0);
        net.setRules(48, 9, 58);
        net.run(1);
        net.setRules(48, 9, 68);
        net.setStation(0, 0, 2);
        net.run(1);
        Check.equal(2, net.copy(0, 1, 0));
        net.setRules(48, 9, 68);
        net.setStation(2, 1, 2);
        net.setLink(2, 0, 3);
        net.setLink(2, 1, 5);
        net.setStation(2, 1, 23);
        net.run(1);
        Check.equal("2 m0 1>0 double", Nets.written(net, net.count(13) - 2));
        Check.equal(2, net.copy(0, 1, 0));
        Check.equal(1, net.message(0, 8));
        // Taken back, the copy at 1 stays, and makes a duplicate too.
        ReliefNet back = Nets.row(3, 1, 50);
        back.setRules(48, 9, 58);
        back.send(0, 2, 0);
        back.run(1);
        back.takeBack(0);
        back.send(0, 2, 0);
        Check.equal(0, back.copy(1, 1, 0));
        Check.equal(3, back.copy(0, 1, 0));
    }

    private static void noDraws() {
        ReliefNet net = Nets.row(2, 1, 50);
        net.send(0, 1, 0);
        net.setRules(1, 9, 5);
        net.setStation(0, 0, 5);
        net.run(6);
        Check.equal(5, net.count(6));
        Check.equal(4, net.copy(0, 0, 0));
    }

    static ReliefNet busy() {
        ReliefNet net = Nets.loaded("station 0 20 2;station 5 3 1;station 0 23 3;station 8 22 9;station 20 16 1;"
                + "link 0 1 0 23 60;link 1 2 4 19 80;link 2 3 0 23 55;link 0 4 22 9 70;link 4 3 1 13 40;"
                + "link 0 2 12 18 90;"
                + "life 60;tries 4;seed 4711;");
        for (int message = 0; message < 20; message++) {
            net.send(message % 5, (message + 1 + message / 5) % 5, message * 7 % 4);
        }
        return net;
    }
}
