/** Promises 1 to 6: a new object, and setup texts. */
final class SetupTextTest {
    private static final String STATION = "station 0 23 1;";

    private SetupTextTest() {
    }

    static void run(Check check) {
        check.test("1 a new net is empty", SetupTextTest::newNet);
        check.test("1 nets do not share anything", SetupTextTest::netsAreApart);
        check.test("2 appends four bytes, the highest first", SetupTextTest::append);
        check.test("2 refuses more than 700 bytes", SetupTextTest::appendTooMuch);
        check.test("3 truncates", SetupTextTest::truncate);
        check.test("4 loads every statement", SetupTextTest::loadAll);
        check.test("4 a load replaces everything but the output and saved states", SetupTextTest::loadReplaces);
        check.test("4 a load with an error changes nothing but text and error", SetupTextTest::loadError);
        check.test("4 a load keeps nothing of predictions and of earlier texts", SetupTextTest::loadForgets);
        check.test("4 empties the text", SetupTextTest::loadEmpties);
        check.test("4 spaces, line feeds and long numbers", SetupTextTest::blanks);
        check.test("4 the last of several rules counts", SetupTextTest::rulesTwice);
        check.test("4 messages of a text are born at the time 0", SetupTextTest::messagesAreBorn);
        check.test("5, 6 no error at first and after a good text", SetupTextTest::noError);
        check.test("5, 6 code 1", SetupTextTest::notAllowed);
        check.test("5, 6 code 2", SetupTextTest::outOfRange);
        check.test("5, 6 the ends of all ranges are allowed", SetupTextTest::endsOfRanges);
        check.test("5, 6 code 3", SetupTextTest::tooMany);
        check.test("5, 6 code 4", SetupTextTest::notAnother);
    }

    private static void newNet() throws Exception {
        ReliefNet net = new ReliefNet();
        Check.row(Nets.counts(net), 0, 0, 0, 0, 48, 3, 1, 0, 0, 0, 0, 0, 0, 0);
        Check.equal(-1, ReliefNet.NONE);
        Check.equal(ReliefNet.NONE, net.output(0));
        Check.equal(0, net.errorCode());
        Check.equal(ReliefNet.NONE, net.errorPosition());
        Check.noState(net, () -> net.restore(0));
        Check.noState(net, () -> net.restore(1));
        Check.noArgument(net, () -> net.truncateText(1));
        Check.equal(0, net.truncateText(0));
        Check.equal(4, net.appendText(0));
    }

    private static void netsAreApart() {
        ReliefNet one = Nets.row(2, 1, 100);
        ReliefNet other = new ReliefNet();
        one.send(0, 1, 0);
        one.run(1);
        one.write(0);
        one.save(0);
        Check.row(Nets.counts(other), 0, 0, 0, 0, 48, 3, 1, 0, 0, 0, 0, 0, 0, 0);
        Check.equal(ReliefNet.NONE, other.output(0));
    }

    private static void append() {
        ReliefNet net = new ReliefNet();
        Check.equal(4, net.appendText(('s' << 24) + ('e' << 16) + ('e' << 8) + 'd'));
        Check.equal(8, net.appendText((' ' << 24) + ('4' << 16) + ('2' << 8) + ';'));
        Check.equal(1, net.load());
        Check.equal(42, net.count(6));
    }

    private static void appendTooMuch() throws Exception {
        ReliefNet net = new ReliefNet();
        for (int length = 4; length <= 700; length += 4) {
            Check.equal(length, net.appendText(0x20202020));
        }
        Check.noState(net, () -> net.appendText(0x20202020));
        Check.equal(697, net.truncateText(697));
        Check.noState(net, () -> net.appendText(0x20202020));
        Check.equal(696, net.truncateText(696));
        Check.equal(700, net.appendText(0x2020203b));
        // The last byte is the only one that is wrong.
        Check.equal(ReliefNet.NONE, net.load());
        Check.equal(699, net.errorPosition());
    }

    private static void truncate() throws Exception {
        ReliefNet net = new ReliefNet();
        Nets.append(net, "life 77;");
        Check.noArgument(net, () -> net.truncateText(9));
        Check.noArgument(net, () -> net.truncateText(-1));
        Check.equal(8, net.truncateText(8));
        Check.equal(6, net.truncateText(6));
        Check.noArgument(net, () -> net.truncateText(7));
        Nets.append(net, ";");
        Check.equal(1, net.load());
        Check.equal(7, net.count(4));
        Nets.append(net, "life 77;");
        Check.equal(0, net.truncateText(0));
        Check.equal(0, net.load());
    }

    private static void loadAll() {
        ReliefNet net = new ReliefNet();
        Check.equal(8, Nets.load(net, "station 1 2 3;station 22 4 9;station 0 23 1;link 2 0 5 6 70;"
                + "message 1 0 2;life 200;tries 9;seed 1000002;"));
        Check.row(Nets.counts(net), 3, 1, 1, 0, 200, 9, 1000002, 1, 0, 0, 1, 0, 0, 1);
        Check.row(Nets.station(net, 0), 1, 2, 3, 0, 0, 0, 0, 0, 0, 1);
        Check.row(Nets.station(net, 1), 22, 4, 9, 1, 1, 0, 0, 0, 0, 0);
        Check.row(Nets.station(net, 2), 0, 23, 1, 1, 0, 0, 0, 0, 0, 1);
        Check.row(Nets.link(net, 0), 2, 0, 5, 6, 70, 0, 0, 0, 0);
        Check.row(Nets.message(net, 0), 1, 0, 2, 0, 0, -1, -1, 0, 0, 1, -1, -1);
        Check.row(Nets.event(net, 0), 0, 0, 0, 1, -1);
        Check.equal(0, Nets.load(net, ""));
        Check.row(Nets.counts(net), 0, 0, 0, 0, 48, 3, 1, 0, 0, 0, 0, 0, 0, 0);
    }

    private static void loadReplaces() {
        ReliefNet net = Nets.row(3, 9, 40);
        net.setRules(5, 5, 5);
        net.send(0, 2, 3);
        net.send(1, 2, 3);
        net.run(9);
        net.write(0);
        net.save(1);
        String saved = Picture.ofSaved(net);
        String output = Nets.output(net);
        String text = STATION + STATION + "link 1 0 0 23 100;message 0 1 0;";
        Check.equal(4, Nets.load(net, text));
        Check.equal(Picture.ofSaved(Nets.loaded(text)), Picture.ofSaved(net));
        Check.equal(output, Nets.output(net));
        // What a load sets works as what the methods set.
        Check.row(Nets.way(net, 0, 1, 0), 1, 1, 1);
        Check.equal(1, net.run(1));
        net.restore(1);
        Check.equal(saved, Picture.ofSaved(net));
    }

    private static void loadError() {
        ReliefNet net = Nets.row(3, 9, 40);
        net.send(0, 2, 3);
        net.run(2);
        net.write(0);
        String before = Picture.ofSaved(net);
        String output = Nets.output(net);
        Check.equal(ReliefNet.NONE, Nets.load(net, STATION + "life 3;seed 9;message"));
        Check.equal(before, Picture.ofSaved(net));
        Check.equal(output, Nets.output(net));
        Check.equal(1, net.errorCode());
        Check.equal(0, net.truncateText(0));
        Check.equal(4, net.appendText(0x20202020));
        Check.equal(0, net.load());
    }

    private static void loadForgets() {
        String text = "station 0 23 9;station 0 23 9;station 0 23 9;station 0 23 9;station 0 23 9;"
                + "link 0 1 0 23 60;link 1 2 0 23 60;link 2 3 0 23 60;link 3 4 0 23 60;"
                + "message 0 4 1;message 1 2 1;message 2 3 0;message 3 4 2;message 4 0 3;";
        ReliefNet due = Nets.loaded(text);
        ReliefNet net = HourTest.busy();
        net.run(20);
        net.stateAfter(0, 30);
        Nets.load(net, text);
        Check.equal(Picture.ofSaved(due), Picture.ofSaved(net));
        due.run(30);
        net.run(30);
        Check.equal(Picture.ofSaved(due), Picture.ofSaved(net));
        net.hoursTo(24);
        error(net, text + "life 7;tries 7;seed 7;x", 1, text.length() + 22);
        Check.equal(0, Nets.load(net, ""));
        Check.equal(Picture.ofSaved(new ReliefNet()), Picture.ofSaved(net));
        // Bytes of a longer text do not belong to a shorter one.
        Nets.load(net, "seed    123; ");
        error(net, "seed", 1, 4);
        Nets.load(net, "seed 123456;");
        error(net, "seed 123", 1, 8);
        Nets.load(net, "links; ");
        error(net, "link", 1, 4);
    }

    private static void loadEmpties() throws Exception {
        ReliefNet net = new ReliefNet();
        Nets.load(net, STATION);
        Check.noArgument(net, () -> net.truncateText(1));
        Check.equal(0, net.load());
        Nets.load(net, "x");
        Check.noArgument(net, () -> net.truncateText(1));
        Check.equal(0, net.load());
        Check.equal(0, net.errorCode());
    }

    private static void blanks() {
        ReliefNet net = new ReliefNet();
        Check.equal(3, Nets.load(net, "\n \n station\n0   23\n 000000000000000000000000009 ; \nlife7;tries2\n;\n"));
        Check.row(Nets.station(net, 0), 0, 23, 9, 1, 0, 0, 0, 0, 0, 0);
        Check.equal(7, net.count(4));
        Check.equal(2, net.count(5));
        Check.equal(0, Nets.load(net, " \n\n  "));
        error(net, "life 4294967297;", 2, 5);
        error(net, "life 18446744073709551617;", 2, 5);
        error(net, "life 99999999999999999999999999999999999999999999;", 2, 5);
        error(net, "life\t1;", 1, 4);
        error(net, "life 1;\r\n", 1, 7);
    }

    private static void rulesTwice() {
        ReliefNet net = Nets.loaded("life 1;life 2;tries 1;tries 2;seed 0;seed 7;");
        Check.row(new int[] {net.count(4), net.count(5), net.count(6)}, 2, 2, 7);
    }

    private static void messagesAreBorn() {
        ReliefNet net = Nets.row(2, 9, 100);
        net.run(5);
        Check.equal(4, Nets.load(net, STATION + STATION + "message 1 0 3;message 0 1 0;"));
        Check.equal("0 m0 1 born; 0 m1 0 born", Nets.log(net));
        Check.equal(0, net.message(0, 3));
        Check.equal(0, net.copy(1, 0, 2));
        Check.equal(1, net.copy(1, 0, 0));
        Check.equal(0, net.path(1, 0, 0));
    }

    private static void error(ReliefNet net, String text, int code, int position) {
        Check.equal(text + " " + ReliefNet.NONE, text + " " + Nets.load(net, text));
        Check.equal(text + " code " + code, text + " code " + net.errorCode());
        Check.equal(text + " at " + position, text + " at " + net.errorPosition());
    }

    private static void noError() {
        ReliefNet net = new ReliefNet();
        error(net, ";", 1, 0);
        net.run(3);
        net.addStation(0, 0, 1);
        Check.equal(1, net.errorCode());
        Check.equal(0, net.errorPosition());
        Check.equal(1, Nets.load(net, STATION));
        Check.equal(0, net.errorCode());
        Check.equal(ReliefNet.NONE, net.errorPosition());
    }

    private static void notAllowed() {
        ReliefNet net = new ReliefNet();
        error(net, "stations 0 23 1;", 1, 0);
        error(net, "statio 0 23 1;", 1, 0);
        error(net, "Station 0 23 1;", 1, 0);
        error(net, "stationz 0 23 1;", 1, 0);
        error(net, "astation 0 23 1;", 1, 0);
        error(net, "xtation 0 23 1;", 1, 0);
        error(net, "zife 1;", 1, 0);
        error(net, "sTation 0 23 1;", 1, 0);
        error(net, "  ;", 1, 2);
        error(net, " 5;", 1, 1);
        error(net, "station", 1, 7);
        error(net, "station \n ", 1, 10);
        error(net, "station 0 23 1", 1, 14);
        error(net, "station 0 23;", 1, 12);
        error(net, "station 0 23 1 1;", 1, 15);
        error(net, "station 0 life 1;", 1, 10);
        error(net, "station 0 -1 1;", 1, 10);
        error(net, "station,0 23 1;", 1, 7);
        error(net, STATION + "#", 1, 15);
        error(net, STATION + (char) 225, 1, 15);
        error(net, STATION + (char) 0, 1, 15);
        error(net, "life 3;;", 1, 7);
        error(net, "life 3#", 1, 6);
        error(net, "life 3,life 4;", 1, 6);
        error(net, "life #", 1, 5);
        error(net, "life;", 1, 4);
        error(net, "tries x;", 1, 6);
        error(net, "seed 5 seed 6;", 1, 7);
        error(net, STATION + STATION + "link 0 1 0 23;", 1, 43);
        error(net, STATION + STATION + "message 0 1;", 1, 41);
        error(net, STATION + STATION + "link 0", 1, 36);
        error(net, STATION + STATION + "link 0 ;", 1, 37);
    }

    private static void outOfRange() {
        ReliefNet net = new ReliefNet();
        error(net, "station 24 0 1;", 2, 8);
        error(net, "station 0 24 1;", 2, 10);
        error(net, "station 0 0 0;", 2, 12);
        error(net, "station 0 0 10;", 2, 12);
        error(net, "station 24 #", 2, 8);
        error(net, "life 0;", 2, 5);
        error(net, "life 201;", 2, 5);
        error(net, "tries 0;", 2, 6);
        error(net, "tries 10;", 2, 6);
        error(net, "seed 1000003;", 2, 5);
        String two = STATION + STATION;
        error(net, "link 0 0 0 0 0;", 2, 5);
        error(net, "message 0 0 0;", 2, 8);
        error(net, STATION + "link 0 1 0 0 0;", 2, 22);
        error(net, two + "link 2 2 0 0 0;", 2, 35);
        error(net, two + "link 1 2 0 0 0;", 2, 37);
        error(net, two + "link 0 1 24 0 0;", 2, 39);
        error(net, two + "link 0 1 0 24 0;", 2, 41);
        error(net, two + "link 0 1 0 0 101;", 2, 43);
        error(net, two + "message 2 0 0;", 2, 38);
        error(net, two + "message 1 2 0;", 2, 40);
        error(net, two + "message 0 1 4;", 2, 42);
    }

    private static void endsOfRanges() {
        ReliefNet net = new ReliefNet();
        String two = "station 0 0 1;station 23 23 9;";
        Check.equal(4, Nets.load(net, two + "link 0 1 0 0 0;message 0 1 0;"));
        Check.equal(4, Nets.load(net, two + "link 1 0 23 23 100;message 1 0 3;"));
        Check.equal(3, Nets.load(net, "life 1;tries 1;seed 0;"));
        Check.equal(3, Nets.load(net, "life 200;tries 9;seed 1000002;"));
    }

    private static void tooMany() {
        ReliefNet net = new ReliefNet();
        String eight = STATION.repeat(8);
        Check.equal(8, Nets.load(net, eight));
        error(net, eight + STATION, 3, 120);
        error(net, eight + " station", 3, 121);
        error(net, eight + " stations", 1, 121);
        StringBuilder links = new StringBuilder(eight);
        for (int link = 0; link < 16; link++) {
            int one = link < 7 ? 0 : link < 13 ? 1 : 2;
            int other = link < 7 ? link + 1 : link < 13 ? link - 5 : link - 10;
            links.append("link ").append(one).append(' ').append(other).append(" 0 0 0;");
        }
        Check.equal(24, Nets.load(net, links.toString()));
        error(net, links + "link 0 1 0 0 0;", 3, links.length());
        String messages = STATION + STATION + "message 0 1 0;".repeat(24);
        Check.equal(26, Nets.load(net, messages));
        error(net, messages + "message 9 9 9;", 3, messages.length());
    }

    private static void notAnother() {
        ReliefNet net = new ReliefNet();
        String two = STATION + STATION;
        error(net, two + "link 1 1 0 0 0;", 4, 37);
        error(net, two + "message 1 1 0;", 4, 40);
        error(net, two + "link 0 1 0 0 0;link 0 1 0 0 0;", 4, 52);
        error(net, two + "link 0 1 0 0 0;link 1 0 0 0 0;", 4, 52);
        error(net, two + "link 0 1 0 0 0;link 1 0 99 0 0;", 4, 52);
        // Many messages may go between the same stations.
        Check.equal(5, Nets.load(net, two + "link 0 1 0 0 0;message 0 1 0;message 0 1 0;"));
    }
}
