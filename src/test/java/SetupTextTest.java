/** Promises 1 to 6: a new object, and setup texts. */
final class SetupTextTest {
    private static final String STATION = "station 0 23 1;";

    private SetupTextTest() {
    }

    static void run(Check check) {
        check.test("1 nets do not share anything", SetupTextTest::netsAreApart);
        check.test("4 loads every statement", SetupTextTest::loadAll);
        check.test("4 what a load sets works as what the methods set", SetupTextTest::loadWorks);
        check.test("4 a load keeps nothing of predictions and of earlier texts", SetupTextTest::loadForgets);
        check.test("4 bytes of a longer text do not belong to a shorter one", SetupTextTest::shorterTexts);
        check.test("4 the last of several rules counts", SetupTextTest::rulesTwice);
        check.test("5, 6 code 1", SetupTextTest::notAllowed);
    }

    private static void netsAreApart() {
        ReliefNet one = Nets.row(2, 1, 100);
        ReliefNet other = new ReliefNet();
        one.send(0, 1, 0);
        one.run(1);
        one.write(0);
        one.save(0);
        Check.row(Nets.counts(other), 0, 0, 0, 0, 48, 3, 1, 0, 0, 0, 0, 0, 0, 0);
        Check.equal(ReliefNet.NONE, other.output(0));
    }

    private static void loadAll() {
        ReliefNet net = new ReliefNet();
        Check.equal(8, Nets.load(net, "station 1 2 3;station 22 4 9;station 0 23 1;link 2 0 5 6 70;"
                + "message 1 0 2;life 200;tries 9;seed 1000002;"));
        Check.row(Nets.counts(net), 3, 1, 1, 0, 200, 9, 1000002, 1, 0, 0, 1, 0, 0, 1);
        Check.row(Nets.station(net, 0), 1, 2, 3, 0, 0, 0, 0, 0, 0, 1);
        Check.row(Nets.station(net, 1), 22, 4, 9, 1, 1, 0, 0, 0, 0, 0);
        Check.row(Nets.station(net, 2), 0, 23, 1, 1, 0, 0, 0, 0, 0, 1);
        Check.row(Nets.link(net, 0), 2, 0, 5, 6, 70, 0, 0, 0, 0);
        Check.row(Nets.message(net, 0), 1, 0, 2, 0, 0, -1, -1, 0, 0, 1, -1, -1);
        Check.row(Nets.event(net, 0), 0, 0, 0, 1, -1);
        Check.equal(0, Nets.load(net, ""));
        Check.row(Nets.counts(net), 0, 0, 0, 0, 48, 3, 1, 0, 0, 0, 0, 0, 0, 0);
    }

    private static void loadWorks() {
        ReliefNet net = Nets.row(3, 9, 40);
        net.setRules(5, 5, 5);
        net.send(0, 2, 3);
        net.run(9);
        Check.equal(4, Nets.load(net, STATION + STATION + "link 1 0 0 23 100;message 0 1 0;"));
        Check.row(Nets.way(net, 0, 1, 0), 1, 1, 1);
        Check.equal(1, net.run(1));
        Check.equal("0 m0 0 born; 0 m0 1>0 delivered; 0 m0 0>1 passed", Nets.log(net));
    }

    /** A text that is read behind a prediction, or behind a text with an error, finds nothing of them. */
    private static void loadForgets() throws Exception {
        String text = "station 0 23 9;station 0 23 9;station 0 23 9;station 0 23 9;station 0 23 9;"
                + "link 0 1 0 23 60;link 1 2 0 23 60;link 2 3 0 23 60;link 3 4 0 23 60;"
                + "message 0 4 1;message 1 2 1;message 2 3 0;message 3 4 2;message 4 0 3;";
        String due = Picture.ofSaved(() -> {
            ReliefNet net = Nets.loaded(text);
            net.run(30);
            return net;
        });
        Check.equal(due, Picture.ofSaved(() -> {
            ReliefNet net = Nets.history();
            net.truncateText(0);
            net.stateAfter(0, 30);
            Nets.load(net, text);
            net.run(30);
            return net;
        }));
        Check.equal(Picture.ofSaved(ReliefNet::new), Picture.ofSaved(() -> {
            ReliefNet net = new ReliefNet();
            error(net, text + "life 7;tries 7;seed 7;x", 1, text.length() + 22);
            net.load();
            return net;
        }));
    }

    private static void shorterTexts() {
        ReliefNet net = new ReliefNet();
        Nets.load(net, "seed    123; ");
        error(net, "seed", 1, 4);
        Nets.load(net, "seed 123456;");
        error(net, "seed 123", 1, 8);
        Nets.load(net, "links; ");
        error(net, "link", 1, 4);
    }

    private static void rulesTwice() {
        ReliefNet net = Nets.loaded("life 1;life 2;tries 1;tries 2;seed 0;seed 7;");
        Check.row(new int[] {net.count(4), net.count(5), net.count(6)}, 2, 2, 7);
    }

    private static void error(ReliefNet net, String text, int code, int position) {
        Check.equal(text + " " + ReliefNet.NONE, text + " " + Nets.load(net, text));
        Check.equal(text + " code " + code, text + " code " + net.errorCode());
        Check.equal(text + " at " + position, text + " at " + net.errorPosition());
    }

    private static void notAllowed() {
        ReliefNet net = new ReliefNet();
        error(net, "stations 0 23 1;", 1, 0);
        error(net, "statio 0 23 1;", 1, 0);
        error(net, "Station 0 23 1;", 1, 0);
        error(net, "stationz 0 23 1;", 1, 0);
        error(net, "astation 0 23 1;", 1, 0);
        error(net, "xtation 0 23 1;", 1, 0);
        error(net, "zife 1;", 1, 0);
        error(net, "sTation 0 23 1;", 1, 0);
        error(net, "  ;", 1, 2);
        error(net, " 5;", 1, 1);
        error(net, "station", 1, 7);
        error(net, "station \n ", 1, 10);
        error(net, "station 0 23 1", 1, 14);
        error(net, "station 0 23;", 1, 12);
        error(net, "station 0 23 1 1;", 1, 15);
        error(net, "station 0 life 1;", 1, 10);
        error(net, "station 0 -1 1;", 1, 10);
        error(net, "station,0 23 1;", 1, 7);
        error(net, STATION + "#", 1, 15);
        error(net, STATION + (char) 225, 1, 15);
        error(net, STATION + (char) 0, 1, 15);
        error(net, "life 3;;", 1, 7);
        error(net, "life 3#", 1, 6);
        error(net, "life 3,life 4;", 1, 6);
        error(net, "life #", 1, 5);
        error(net, "life;", 1, 4);
        error(net, "tries x;", 1, 6);
        error(net, "seed 5 seed 6;", 1, 7);
        error(net, STATION + STATION + "link 0 1 0 23;", 1, 43);
        error(net, STATION + STATION + "message 0 1;", 1, 41);
        error(net, STATION + STATION + "link 0", 1, 36);
        error(net, STATION + STATION + "link 0 ;", 1, 37);
    }
}
