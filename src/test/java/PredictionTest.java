/** Promises 26 to 29: predictions and means. */
final class PredictionTest {
    private PredictionTest() {
    }

    static void run(Check check) {
        check.test("26 predicts what a run brings", PredictionTest::stateAfter);
        check.test("26 tells all three states", PredictionTest::states);
        check.test("27 predicts the hours", PredictionTest::hoursTo);
        check.test("27 the 72nd hour counts, the 73rd does not", PredictionTest::hoursToLimit);
        check.test("28 tells the mean", PredictionTest::meanHours);
        check.test("29 tells the losses", PredictionTest::lossRate);
    }

    private static void stateAfter() {
        for (int hours = 1; hours <= 72; hours++) {
            ReliefNet net = HourTest.busy();
            int[] predicted = new int[20];
            for (int message = 0; message < 20; message++) {
                predicted[message] = net.stateAfter(message, hours);
            }
            net.run(hours);
            for (int message = 0; message < 20; message++) {
                Check.equal(net.message(message, 4), predicted[message]);
            }
        }
    }

    private static void states() {
        ReliefNet net = Nets.row(3, 1, 100);
        net.send(0, 2, 0);
        Check.equal(0, net.stateAfter(0, 1));
        Check.equal(1, net.stateAfter(0, 2));
        Check.equal(1, net.stateAfter(0, 72));
        net.setLink(1, 2, 0);
        Check.equal(0, net.stateAfter(0, 3));
        Check.equal(2, net.stateAfter(0, 4));
        net.run(4);
        Check.equal(2, net.stateAfter(0, 1));
    }

    private static void hoursTo() {
        ReliefNet net = HourTest.busy();
        int[] predicted = new int[25];
        for (int many = 1; many <= 24; many++) {
            predicted[many] = net.hoursTo(many);
        }
        for (int many = 1; many <= 24; many++) {
            ReliefNet again = HourTest.busy();
            int hours = 0;
            while (hours < 72 && again.count(8) < many) {
                again.run(1);
                hours++;
            }
            Check.equal(again.count(8) < many ? -1 : hours, predicted[many]);
        }
        net.run(20);
        Check.equal(0, net.hoursTo(net.count(8)));
        Check.equal(0, net.hoursTo(1));
        Check.equal(-1, new ReliefNet().hoursTo(1));
    }

    private static void hoursToLimit() {
        ReliefNet net = Nets.loaded("station 0 23 1;station 0 23 1;link 0 1 23 23 100;life 200;message 0 1 0;"
                + "message 0 1 0;message 0 1 0;");
        Check.equal(24, net.hoursTo(1));
        Check.equal(72, net.hoursTo(3));
        Check.equal(-1, net.hoursTo(4));
        net.setLink(0, 0, 0);
        net.setLink(0, 1, 0);
        Check.equal(49, net.hoursTo(3));
        net.run(1);
        Check.equal(0, net.hoursTo(1));
        Check.equal(48, net.hoursTo(3));
        net.send(1, 0, 0);
        net.send(0, 1, 0);
        net.setLink(0, 1, 1);
        net.setLink(0, 0, 1);
        Check.equal(1, net.hoursTo(3));
        net.setStation(1, 0, 0);
        net.setLink(0, 0, 0);
        net.setLink(0, 1, 0);
        Check.equal(72, net.hoursTo(5));
        net.setRules(200, 1, 1);
        net.send(0, 1, 0);
        Check.equal(-1, net.hoursTo(6));
    }

    private static void meanHours() {
        ReliefNet net = Nets.row(4, 9, 100);
        Check.equal(-1.0, net.meanHours());
        net.run(3);
        net.send(0, 1, 0);
        net.send(0, 3, 0);
        net.send(3, 0, 0);
        Check.equal(-1.0, net.meanHours());
        net.run(1);
        Check.equal(1.0, net.meanHours());
        net.run(2);
        Check.equal(7.0 / 3.0, net.meanHours());
        net.run(10);
        Check.equal(7.0 / 3.0, net.meanHours());
    }

    private static void lossRate() {
        ReliefNet net = Nets.row(2, 1, 50);
        Check.equal(0.0f, net.lossRate());
        net.send(0, 1, 0);
        net.setRules(48, 9, 58);
        net.run(1);
        Check.equal(1.0f, net.lossRate());
        net.setRules(48, 9, 35);
        net.run(1);
        Check.equal(1.0f, net.lossRate());
        net.setRules(48, 9, 68);
        net.run(1);
        Check.equal(2.0f / 3.0f, net.lossRate());
        ReliefNet good = Nets.row(2, 1, 100);
        good.send(0, 1, 0);
        good.run(1);
        Check.equal(0.0f, good.lossRate());
    }
}
