/** What the document says of stations and links, and of the promises 7 to 14. */
final class StationSentences {
    private StationSentences() {
    }

    static void run(Sentences doc) {
        stations(doc);
        links(doc);
        addStation(doc);
        addLink(doc);
        setStation(doc);
        setLink(doc);
        setRules(doc);
        station(doc);
        link(doc);
        count(doc);
    }

    private static void stations(Sentences doc) {
        doc.section("STATIONS AND LINKS");
        doc.says("There are at most 8 stations, numbered from 0.", () -> {
            ReliefNet net = new ReliefNet();
            for (int station = 0; station < 8; station++) {
                int none = station;
                Check.equal(station, net.count(0));
                Check.refused(IndexOutOfBoundsException.class, () -> net.station(none, 0));
                Check.equal(station, net.addStation(station, station + 8, station + 1));
            }
            Check.equal(8, net.count(0));
            for (int station = 0; station < 8; station++) {
                int[] numbers = Nets.station(net, station);
                Check.row(new int[] {numbers[0], numbers[1], numbers[2]}, station, station + 8, station + 1);
            }
            Refused.state(Nets::eightStations, full -> full.addStation(0, 23, 9));
            Refused.index(Nets::eightStations, full -> full.station(8, 0));
        });
        doc.says("A station is on the air in the hours of the day from FROM to TO (0 to 23, both included", () -> {
            for (int from = 0; from < 24; from++) {
                for (int to = from; to < 24; to++) {
                    Check.equal(hours(from, to), hoursOnAir(from, to));
                }
            }
        });
        doc.says("; around midnight if FROM is greater than TO)", () -> {
            for (int from = 1; from < 24; from++) {
                for (int to = 0; to < from; to++) {
                    Check.equal(hours(from, to), hoursOnAir(from, to));
                }
            }
        });
        doc.says(", and sends at most RATE (1 to 9) frames in an hour.", () -> {
            for (int rate = 1; rate <= 9; rate++) {
                ReliefNet net = Nets.row(2, rate, 100);
                for (int message = 0; message < 24; message++) {
                    net.send(0, 1, 0);
                }
                Check.equal(rate, net.run(1));
                Check.equal(rate, net.station(0, 5));
                Check.equal(rate, net.run(1));
                Check.equal(2 * rate, net.station(0, 5));
            }
        });
        doc.says("The time is the number of hours that have passed (0 at first)", () -> {
            ReliefNet net = Nets.row(2, 1, 100);
            Check.equal(0, net.count(3));
            net.run(1);
            Check.equal(1, net.count(3));
            net.run(72);
            Check.equal(73, net.count(3));
        });
        doc.says("; the hour of the day is the time modulo 24.", () -> {
            ReliefNet net = new ReliefNet();
            net.addStation(0, 0, 1);
            net.addStation(23, 23, 1);
            for (int time = 0; time < 100; time++) {
                Check.equal(time % 24 == 0 ? 1 : 0, net.station(0, 3));
                Check.equal(time % 24 == 23 ? 1 : 0, net.station(1, 3));
                net.run(1);
            }
        });
    }

    /** The hours of the day from one to another, gone through by a clock. */
    private static String hours(int from, int to) {
        char[] all = "........................".toCharArray();
        int hour = from;
        all[hour] = '1';
        while (hour != to) {
            hour = (hour + 1) % 24;
            all[hour] = '1';
        }
        return new String(all);
    }

    private static String hoursOnAir(int from, int to) {
        ReliefNet net = new ReliefNet();
        net.addStation(from, to, 1);
        StringBuilder all = new StringBuilder();
        for (int hour = 0; hour < 24; hour++) {
            all.append(net.station(0, 3) == 1 ? '1' : '.');
            net.run(1);
        }
        return all.toString();
    }

    private static String hoursOpen(int from, int to) {
        ReliefNet net = Nets.row(2, 1, 100);
        net.setLink(0, 0, from);
        net.setLink(0, 1, to);
        StringBuilder all = new StringBuilder();
        for (int hour = 0; hour < 24; hour++) {
            all.append(net.link(0, 5) == 1 ? '1' : '.');
            // Ways know of the same hours.
            Check.equal(net.link(0, 5) == 1 ? 1 : ReliefNet.NONE, net.way(0, 1, hour, 2));
            net.run(1);
        }
        return all.toString();
    }

    private static void links(Sentences doc) {
        doc.says("There are at most 16 links, numbered from 0", () -> {
            ReliefNet net = Nets.eightStations();
            for (int link = 0; link < 16; link++) {
                int none = link;
                Check.equal(link, net.count(1));
                Check.refused(IndexOutOfBoundsException.class, () -> net.link(none, 0));
                Check.equal(link, net.addLink(link / 4, 4 + link % 4, link, 23 - link, 50 + link));
            }
            Check.equal(16, net.count(1));
            for (int link = 0; link < 16; link++) {
                int[] numbers = java.util.Arrays.copyOf(Nets.link(net, link), 5);
                Check.row(numbers, link / 4, 4 + link % 4, link, 23 - link, 50 + link);
            }
            Refused.state(Nets::full, full -> full.addLink(0, 1, 0, 23, 100));
            Refused.index(Nets::full, full -> full.link(16, 0));
        });
        doc.says(", at most one between two different stations", () -> {
            Refused.state(() -> Nets.row(3, 1, 100), net -> net.addLink(0, 1, 0, 23, 100),
                    net -> net.addLink(1, 0, 5, 6, 7));
            Check.equal(2, Nets.row(3, 1, 100).addLink(0, 2, 0, 23, 100));
        });
        doc.says(", in both directions.", () -> {
            for (int one = 0; one < 2; one++) {
                ReliefNet net = Nets.row(1, 1, 100);
                net.addStation(0, 23, 1);
                net.addLink(one, 1 - one, 0, 23, 100);
                net.send(0, 1, 0);
                net.send(1, 0, 0);
                Check.equal(2, net.run(1));
                Check.equal(2, net.link(0, 6));
            }
        });
        doc.says("A link has hours FROM to TO likewise", () -> {
            for (int from = 0; from < 24; from++) {
                for (int to = 0; to < 24; to++) {
                    Check.equal(hours(from, to), hoursOpen(from, to));
                }
            }
        });
        doc.says(", and a QUALITY (0 to 100).", () -> {
            // With 0 even the least draw loses a frame, with 100 the greatest does not.
            Check.equal(ReliefNet.NONE, frame(0, 0, 0).message(0, 5));
            Check.equal(1, frame(100, 99, 99).message(0, 5));
            Check.equal(2, frame(100, 99, 99).copy(0, 0, 0));
            Check.equal(1, frame(1, 0, 0).message(0, 5));
            Check.equal(ReliefNet.NONE, frame(1, 1, 0).message(0, 5));
            Check.equal(1, frame(99, 98, 98).message(0, 5));
            Check.equal(ReliefNet.NONE, frame(99, 99, 0).message(0, 5));
        });
        doc.says("It is open in an hour if the hour of the day is one of its hours, and both of its stations are on "
                + "the air.", () -> {
            for (int closed = 0; closed < 8; closed++) {
                ReliefNet net = Nets.row(2, 1, 100);
                net.send(0, 1, 0);
                net.setStation(0, 0, closed & 1);
                net.setStation(1, 0, closed >> 1 & 1);
                net.setLink(0, 0, closed >> 2 & 1);
                Check.equal(closed == 0 ? 1 : 0, net.link(0, 5));
                Check.equal(closed == 0 ? 1 : ReliefNet.NONE, net.copy(0, 0, 4));
                Check.equal(closed == 0 ? 1 : 0, net.run(1));
            }
        });
    }

    /** One hour of two stations with one message, whose first draws are these. */
    private static ReliefNet frame(int quality, int... draws) {
        ReliefNet net = Nets.row(2, 1, quality);
        net.setRules(48, 3, Draws.exactly(draws));
        net.send(0, 1, 0);
        net.run(1);
        return net;
    }

    private static void addStation(Sentences doc) {
        doc.section("Promise 7");
        doc.plain("---- stations, links, settings");
        doc.says("Adds a station.", () -> {
            ReliefNet net = new ReliefNet();
            net.addStation(5, 6, 7);
            Check.equal(1, net.count(0));
            Check.row(Nets.station(net, 0), 5, 6, 7, 0, 0, 0, 0, 0, 0, 0);
        });
        doc.says("- `from`: 0 to 23", () -> Refused.range(ReliefNet::new, 0, 23,
                (net, from) -> net.addStation(from, 11, 5), net -> net.station(0, 0)));
        doc.says("- `to`: 0 to 23", () -> Refused.range(ReliefNet::new, 0, 23,
                (net, to) -> net.addStation(11, to, 5), net -> net.station(0, 1)));
        doc.says("- `rate`: 1 to 9", () -> Refused.range(ReliefNet::new, 1, 9,
                (net, rate) -> net.addStation(11, 12, rate), net -> net.station(0, 2)));
        doc.says("Returns its number.", () -> {
            ReliefNet net = new ReliefNet();
            for (int station = 0; station < 8; station++) {
                Check.equal(station, net.addStation(0, 0, 1));
            }
            Nets.load(net, "");
            Check.equal(0, net.addStation(0, 0, 1));
        });
        doc.says("Throws `IllegalArgumentException` if an argument is out of range", () -> {
            Refused.Call[] calls = {net -> net.addStation(-1, 0, 1), net -> net.addStation(24, 0, 1),
                net -> net.addStation(0, -1, 1), net -> net.addStation(0, 24, 1), net -> net.addStation(0, 0, 0),
                net -> net.addStation(0, 0, 10), net -> net.addStation(24, 24, 10)};
            // With eight stations too, since this exception comes first.
            Refused.argument(Nets::full, calls);
            Refused.argument(Nets::history, calls);
            Refused.argumentBeyond(Nets::history, 0, 23, (net, from) -> net.addStation(from, 0, 1));
            Refused.argumentBeyond(Nets::history, 0, 23, (net, to) -> net.addStation(0, to, 1));
            Refused.argumentBeyond(Nets::history, 1, 9, (net, rate) -> net.addStation(0, 0, rate));
        });
        doc.says("Throws `IllegalStateException` if there are 8 stations", () -> {
            Refused.state(Nets::full, net -> net.addStation(0, 0, 1), net -> net.addStation(23, 23, 9));
            Refused.state(() -> Nets.loaded("station 0 0 1;".repeat(8)), net -> net.addStation(0, 0, 1));
            Check.equal(7, Nets.loaded("station 0 0 1;".repeat(7)).addStation(0, 0, 1));
        });
    }

    private static ReliefNet apart(int stations) {
        ReliefNet net = new ReliefNet();
        for (int station = 0; station < stations; station++) {
            net.addStation(0, 23, 1);
        }
        return net;
    }

    private static void addLink(Sentences doc) {
        doc.section("Promise 8");
        doc.says("Adds a link.", () -> {
            ReliefNet net = apart(2);
            net.addLink(1, 0, 2, 3, 4);
            Check.equal(1, net.count(1));
            Check.row(Nets.link(net, 0), 1, 0, 2, 3, 4, 0, 0, 0, 0);
        });
        doc.says("- `one`: a station", () -> {
            Check.equal(0, linked(0, 4).link(0, 0));
            Check.equal(7, linked(7, 4).link(0, 0));
            Refused.indexBeyond(() -> apart(8), 0, 7, (net, one) -> net.addLink(one, 4, 0, 0, 0));
            Refused.indexBeyond(() -> apart(2), 0, 1, (net, one) -> net.addLink(one, 0, 0, 0, 0));
        });
        doc.says("- `other`: another station", () -> {
            Check.equal(0, linked(4, 0).link(0, 1));
            Check.equal(7, linked(4, 7).link(0, 1));
            Refused.indexBeyond(() -> apart(8), 0, 7, (net, other) -> net.addLink(4, other, 0, 0, 0));
            Refused.indexBeyond(() -> apart(2), 0, 1, (net, other) -> net.addLink(0, other, 0, 0, 0));
            Refused.argument(() -> apart(8), net -> net.addLink(0, 0, 0, 0, 0), net -> net.addLink(7, 7, 0, 0, 0));
        });
        doc.says("- `from`: 0 to 23", () -> Refused.range(() -> apart(2), 0, 23,
                (net, from) -> net.addLink(0, 1, from, 11, 50), net -> net.link(0, 2)));
        doc.says("- `to`: 0 to 23", () -> Refused.range(() -> apart(2), 0, 23,
                (net, to) -> net.addLink(0, 1, 11, to, 50), net -> net.link(0, 3)));
        doc.says("- `quality`: 0 to 100", () -> Refused.range(() -> apart(2), 0, 100,
                (net, quality) -> net.addLink(0, 1, 0, 23, quality), net -> net.link(0, 4)));
        doc.says("Returns its number.", () -> {
            ReliefNet net = apart(8);
            for (int link = 0; link < 16; link++) {
                Check.equal(link, net.addLink(4 + link % 4, link / 4, 0, 0, 0));
            }
        });
        doc.says("Throws `IndexOutOfBoundsException` if there is no such station", () -> {
            Refused.index(ReliefNet::new, net -> net.addLink(0, 0, 0, 0, 0), net -> net.addLink(0, 1, 0, 0, 0));
            Refused.indexBeyond(Nets::history, 0, 4, (net, one) -> net.addLink(one, 3, 0, 23, 50));
            Refused.indexBeyond(Nets::history, 0, 4, (net, other) -> net.addLink(3, other, 0, 23, 50));
            // Before the other exceptions: the same stations, other arguments, sixteen links.
            Refused.index(Nets::full, net -> net.addLink(8, 8, 0, 0, 0), net -> net.addLink(-1, -1, 0, 0, 0),
                    net -> net.addLink(0, 8, 24, 24, 101), net -> net.addLink(8, 0, -1, -1, -1),
                    net -> net.addLink(8, 0, 0, 0, 0), net -> net.addLink(0, 8, 0, 0, 0));
        });
        doc.says("Throws `IllegalArgumentException` if both stations are the same, or another argument is out of range",
                () -> {
            Refused.Call[] calls = {net -> net.addLink(0, 0, 0, 0, 0), net -> net.addLink(0, 1, -1, 0, 0),
                net -> net.addLink(0, 1, 24, 0, 0), net -> net.addLink(0, 1, 0, -1, 0),
                net -> net.addLink(0, 1, 0, 24, 0), net -> net.addLink(0, 1, 0, 0, -1),
                net -> net.addLink(0, 1, 0, 0, 101)};
            Refused.argument(() -> apart(2), calls);
            Refused.argumentBeyond(Nets::history, 0, 23, (net, from) -> net.addLink(0, 3, from, 0, 0));
            Refused.argumentBeyond(Nets::history, 0, 23, (net, to) -> net.addLink(0, 3, 0, to, 0));
            Refused.argumentBeyond(Nets::history, 0, 100, (net, quality) -> net.addLink(0, 3, 0, 0, quality));
            // Before the last exception: a link between both, sixteen links.
            Refused.argument(() -> Nets.row(2, 1, 1), calls);
            Refused.argument(Nets::full, calls);
        });
        doc.says("Throws `IllegalStateException` if there is a link between both", () -> {
            Refused.state(Nets::history, net -> net.addLink(0, 1, 0, 23, 100), net -> net.addLink(1, 0, 0, 23, 100),
                    net -> net.addLink(0, 2, 0, 23, 100), net -> net.addLink(2, 0, 0, 23, 100));
            Check.equal(6, Nets.history().addLink(0, 3, 0, 23, 100));
        });
        doc.says(", or there are 16 links", () -> {
            Refused.state(Nets::full, net -> net.addLink(0, 1, 0, 0, 0), net -> net.addLink(7, 6, 0, 0, 0),
                    net -> net.addLink(0, 4, 0, 0, 0));
            ReliefNet net = apart(8);
            for (int other = 1; other < 8; other++) {
                net.addLink(0, other, 0, 0, 0);
            }
            for (int link = 7; link < 15; link++) {
                net.addLink(link < 13 ? 1 : 2, link < 13 ? link - 5 : link - 10, 0, 0, 0);
            }
            Check.equal(15, net.addLink(2, 5, 0, 0, 0));
        });
    }

    private static ReliefNet linked(int one, int other) {
        ReliefNet net = apart(8);
        net.addLink(one, other, 0, 23, 50);
        return net;
    }

    private static void setStation(Sentences doc) {
        doc.section("Promise 9");
        doc.says("Changes a number of a station.", () -> {
            ReliefNet net = apart(8);
            for (int what = 0; what < 3; what++) {
                net.setStation(7, what, 4 + what);
                net.setStation(0, what, 1 + what);
            }
            Check.row(Nets.station(net, 7), 4, 5, 6, 0, 0, 0, 0, 0, 0, 0);
            Check.row(Nets.station(net, 0), 1, 2, 3, 0, 0, 0, 0, 0, 0, 0);
            Check.row(Nets.station(net, 1), 0, 23, 1, 1, 0, 0, 0, 0, 0, 0);
        });
        doc.says("- `station`: a station", () -> {
            Check.equal(0, apart(8).setStation(0, 0, 5));
            Check.equal(0, apart(8).setStation(7, 0, 5));
            Refused.indexBeyond(() -> apart(8), 0, 7, (net, station) -> net.setStation(station, 0, 0));
            Refused.indexBeyond(() -> apart(1), 0, 0, (net, station) -> net.setStation(station, 0, 0));
        });
        doc.says("- `what`: 0: FROM", () -> Refused.range(() -> apart(2), 0, 23,
                (net, from) -> net.setStation(1, 0, from), net -> net.station(1, 0)));
        doc.says("; 1: TO", () -> Refused.range(() -> apart(2), 0, 23,
                (net, to) -> net.setStation(1, 1, to), net -> net.station(1, 1)));
        doc.says("; 2: RATE", () -> Refused.range(() -> apart(2), 1, 9,
                (net, rate) -> net.setStation(1, 2, rate), net -> net.station(1, 2)));
        doc.says("- `value`: the new value", () -> {
            // It counts at once, for the station, its links, ways and what is sent.
            ReliefNet net = Nets.row(2, 1, 100);
            net.send(0, 1, 0);
            net.setStation(1, 0, 1);
            Check.row(Nets.way(net, 0, 1, 0), 2, 1, -1);
            Check.equal(0, net.link(0, 5));
            Check.equal(0, net.run(1));
            net.setStation(1, 0, 0);
            Check.equal(1, net.run(1));
        });
        doc.says("Returns the previous value.", () -> {
            ReliefNet net = new ReliefNet();
            net.addStation(0, 23, 9);
            Check.equal(0, net.setStation(0, 0, 23));
            Check.equal(23, net.setStation(0, 0, 23));
            Check.equal(23, net.setStation(0, 1, 0));
            Check.equal(0, net.setStation(0, 1, 5));
            Check.equal(9, net.setStation(0, 2, 1));
            Check.equal(1, net.setStation(0, 2, 9));
        });
        doc.says("Throws `IndexOutOfBoundsException` if there is no such station", () -> {
            Refused.index(ReliefNet::new, net -> net.setStation(0, 0, 0));
            Refused.indexBeyond(Nets::history, 0, 4, (net, station) -> net.setStation(station, 0, 0));
            Refused.index(Nets::full, net -> net.setStation(8, 0, 0), net -> net.setStation(-1, 0, 0),
                    net -> net.setStation(8, 3, 0), net -> net.setStation(8, 2, 0), net -> net.setStation(-1, -1, -1));
        });
        doc.says("Throws `IllegalArgumentException` if what is out of range", () ->
                Refused.argumentBeyond(Nets::history, 0, 2, (net, what) -> net.setStation(0, what, 5)));
        doc.says(", or value is out of the range of that number", () -> {
            for (int what = 0; what < 3; what++) {
                int number = what;
                Refused.argumentBeyond(Nets::history, what == 2 ? 1 : 0, what == 2 ? 9 : 23,
                        (net, value) -> net.setStation(0, number, value));
            }
        });
    }

    private static void setLink(Sentences doc) {
        Picture.Maker pair = () -> Nets.row(3, 1, 50);
        doc.section("Promise 10");
        doc.says("Changes a number of a link.", () -> {
            ReliefNet net = Nets.row(3, 1, 50);
            for (int what = 0; what < 3; what++) {
                net.setLink(1, what, 4 + what);
            }
            Check.row(Nets.link(net, 1), 1, 2, 4, 5, 6, 0, 0, 0, 0);
            Check.row(Nets.link(net, 0), 0, 1, 0, 23, 50, 1, 0, 0, 0);
        });
        doc.says("- `link`: a link", () -> {
            Check.equal(100, Nets.full().setLink(0, 2, 0));
            Check.equal(100, Nets.full().setLink(15, 2, 0));
            Refused.indexBeyond(Nets::full, 0, 15, (net, link) -> net.setLink(link, 0, 0));
            Refused.indexBeyond(pair, 0, 1, (net, link) -> net.setLink(link, 0, 0));
        });
        doc.says("- `what`: 0: FROM", () -> Refused.range(pair, 0, 23, (net, from) -> net.setLink(1, 0, from),
                net -> net.link(1, 2)));
        doc.says("; 1: TO", () -> Refused.range(pair, 0, 23, (net, to) -> net.setLink(1, 1, to),
                net -> net.link(1, 3)));
        doc.says("; 2: QUALITY", () -> Refused.range(pair, 0, 100, (net, quality) -> net.setLink(1, 2, quality),
                net -> net.link(1, 4)));
        doc.says("- `value`: the new value", () -> {
            ReliefNet net = Nets.row(2, 1, 100);
            net.send(0, 1, 0);
            net.setLink(0, 0, 1);
            Check.row(Nets.way(net, 0, 1, 0), 2, 1, -1);
            Check.equal(0, net.link(0, 5));
            Check.equal(0, net.run(1));
            net.setLink(0, 2, 0);
            Check.equal(0, net.run(1));
            net.setLink(0, 2, 100);
            Check.equal(1, net.run(1));
        });
        doc.says("Returns the previous value.", () -> {
            ReliefNet net = Nets.row(2, 1, 100);
            Check.equal(0, net.setLink(0, 0, 23));
            Check.equal(23, net.setLink(0, 0, 23));
            Check.equal(23, net.setLink(0, 1, 0));
            Check.equal(0, net.setLink(0, 1, 5));
            Check.equal(100, net.setLink(0, 2, 0));
            Check.equal(0, net.setLink(0, 2, 100));
        });
        doc.says("Throws `IndexOutOfBoundsException` if there is no such link", () -> {
            Refused.index(ReliefNet::new, net -> net.setLink(0, 0, 0));
            Refused.index(() -> apart(8), net -> net.setLink(0, 0, 0));
            Refused.indexBeyond(Nets::history, 0, 5, (net, link) -> net.setLink(link, 0, 0));
            Refused.index(Nets::full, net -> net.setLink(16, 0, 0), net -> net.setLink(-1, 0, 0),
                    net -> net.setLink(16, 3, 0), net -> net.setLink(16, 2, 101), net -> net.setLink(-1, -1, -1));
        });
        doc.says("Throws `IllegalArgumentException` if what is out of range", () ->
                Refused.argumentBeyond(Nets::history, 0, 2, (net, what) -> net.setLink(0, what, 5)));
        doc.says(", or value is out of the range of that number", () -> {
            for (int what = 0; what < 3; what++) {
                int number = what;
                Refused.argumentBeyond(Nets::history, 0, what == 2 ? 100 : 23,
                        (net, value) -> net.setLink(0, number, value));
            }
        });
    }

    private static void setRules(Sentences doc) {
        doc.section("Promise 11");
        doc.says("Sets LIFE, TRIES and x.", () -> {
            ReliefNet net = Nets.history();
            net.setRules(5, 6, 7);
            Check.row(new int[] {net.count(4), net.count(5), net.count(6)}, 5, 6, 7);
        });
        doc.says("- `life`: 1 to 200", () -> Refused.range(Nets::history, 1, 200,
                (net, life) -> net.setRules(life, 5, 5), net -> net.count(4)));
        doc.says("- `tries`: 1 to 9", () -> Refused.range(Nets::history, 1, 9,
                (net, tries) -> net.setRules(5, tries, 5), net -> net.count(5)));
        doc.says("(copies that have so many tries already are stopped when they have one more)", () -> {
            // Five tries are as many as the new TRIES, or more, or one less.
            for (int tries = 1; tries <= 7; tries++) {
                ReliefNet net = Nets.row(2, 1, 0);
                net.setRules(48, 9, 1);
                net.send(0, 1, 0);
                net.run(5);
                net.setRules(48, tries, 1);
                Check.row(Nets.copy(net, 0, 0), 1, 5, 0, 1, 1);
                net.run(1);
                Check.row(Nets.copy(net, 0, 0), tries <= 6 ? 3 : 1, 6, 0, 1, tries <= 6 ? -1 : 1);
            }
        });
        doc.says("- `seed`: the new x, 0 to 1000002", () -> Refused.range(Nets::history, 0, 1000002,
                (net, seed) -> net.setRules(5, 5, seed), net -> net.count(6)));
        doc.says("Throws `IllegalArgumentException` if an argument is out of range", () -> {
            Refused.argumentBeyond(Nets::history, 1, 200, (net, life) -> net.setRules(life, 1, 0));
            Refused.argumentBeyond(Nets::history, 1, 9, (net, tries) -> net.setRules(1, tries, 0));
            Refused.argumentBeyond(Nets::history, 0, 1000002, (net, seed) -> net.setRules(1, 1, seed));
            Refused.argument(Nets::history, net -> net.setRules(0, 0, -1), net -> net.setRules(201, 10, 1000003));
        });
    }

    private static void station(Sentences doc) {
        doc.section("Promise 12");
        doc.says("- `station`: a station", () -> {
            ReliefNet net = Nets.full();
            net.setStation(7, 2, 7);
            Check.equal(9, net.station(0, 2));
            Check.equal(7, net.station(7, 2));
            Refused.indexBeyond(Nets::full, 0, 7, (any, station) -> any.station(station, 0));
            Refused.indexBeyond(() -> apart(1), 0, 0, (any, station) -> any.station(station, 0));
        });
        doc.says("- `what`: 0: FROM; 1: TO; 2: RATE", () -> {
            ReliefNet net = new ReliefNet();
            net.addStation(0, 23, 1);
            net.addStation(23, 0, 9);
            Check.row(java.util.Arrays.copyOf(Nets.station(net, 0), 3), 0, 23, 1);
            Check.row(java.util.Arrays.copyOf(Nets.station(net, 1), 3), 23, 0, 9);
        });
        doc.says("; 3: 1 if it is on the air in the hour that begins now, else 0", () -> {
            ReliefNet net = new ReliefNet();
            net.addStation(1, 1, 1);
            for (int due : new int[] {0, 1, 0}) {
                Check.equal(due, net.station(0, 3));
                net.run(1);
            }
        });
        doc.says("; 4: copies that wait there", () -> {
            ReliefNet net = Nets.row(2, 9, 100);
            Check.equal(0, net.station(0, 4));
            for (int message = 0; message < 24; message++) {
                net.send(0, 1, 0);
            }
            Check.equal(24, net.station(0, 4));
            Check.equal(0, net.station(1, 4));
            net.run(1);
            // Nine are passed on, and delivered ones do not wait.
            Check.equal(15, net.station(0, 4));
            Check.equal(0, net.station(1, 4));
            net.takeBack(23);
            Check.equal(14, net.station(0, 4));
        });
        doc.says("; 5: frames that it sent; 6: frames that it got", () -> {
            ReliefNet net = Nets.row(2, 9, 50);
            net.setRules(48, 9, Draws.around(50, "--+-++"));
            net.send(0, 1, 0);
            int[][] due = {{0, 0}, {1, 0}, {2, 0}, {3, 1}, {4, 2}, {4, 2}};
            for (int[] frames : due) {
                Check.row(new int[] {net.station(0, 5), net.station(1, 6)}, frames);
                Check.row(new int[] {net.station(1, 5), net.station(0, 6)}, 0, 0);
                net.run(1);
            }
        });
        doc.says("; 7: duplicates that it found; 8: messages that were delivered there", () -> {
            ReliefNet net = Nets.row(2, 9, 50);
            net.setRules(48, 9, Draws.around(50, "+-+-++"));
            net.send(0, 1, 0);
            int[][] due = {{0, 0}, {0, 1}, {1, 1}, {2, 1}, {2, 1}};
            for (int[] found : due) {
                Check.row(new int[] {net.station(1, 7), net.station(1, 8)}, found);
                Check.row(new int[] {net.station(0, 7), net.station(0, 8)}, 0, 0);
                net.run(1);
            }
        });
        doc.says("; 9: links", () -> {
            Check.equal(0, apart(1).station(0, 9));
            ReliefNet net = apart(8);
            for (int other = 0; other < 7; other++) {
                net.addLink(other, 7, 5, 5, 0);
                Check.equal(other + 1, net.station(7, 9));
            }
            Check.equal(1, net.station(0, 9));
        });
        doc.says("Returns that number.", () -> Check.row(Nets.station(Nets.full(), 7), 0, 23, 9, 1, 3, 0, 0, 0, 0, 4));
        doc.says("Throws `IndexOutOfBoundsException` if there is no such station", () -> {
            Refused.index(ReliefNet::new, net -> net.station(0, 0));
            Refused.indexBeyond(Nets::history, 0, 4, (net, station) -> net.station(station, 0));
            Refused.index(Nets::history, net -> net.station(5, 10), net -> net.station(-1, -1));
        });
        doc.says("Throws `IllegalArgumentException` if what is out of range", () ->
                Refused.argumentBeyond(Nets::history, 0, 9, (net, what) -> net.station(0, what)));
    }

    private static void link(Sentences doc) {
        doc.section("Promise 13");
        doc.says("- `link`: a link", () -> {
            Check.row(java.util.Arrays.copyOf(Nets.link(Nets.full(), 0), 2), 0, 4);
            Check.row(java.util.Arrays.copyOf(Nets.link(Nets.full(), 15), 2), 3, 7);
            Refused.indexBeyond(Nets::full, 0, 15, (net, link) -> net.link(link, 0));
            Refused.indexBeyond(() -> Nets.row(2, 1, 1), 0, 0, (net, link) -> net.link(link, 0));
        });
        doc.says("- `what`: 0: one station; 1: the other one; 2: FROM; 3: TO; 4: QUALITY", () -> {
            ReliefNet net = apart(8);
            net.addLink(7, 0, 0, 23, 0);
            net.addLink(0, 1, 23, 0, 100);
            Check.row(java.util.Arrays.copyOf(Nets.link(net, 0), 5), 7, 0, 0, 23, 0);
            Check.row(java.util.Arrays.copyOf(Nets.link(net, 1), 5), 0, 1, 23, 0, 100);
        });
        doc.says("; 5: 1 if it is open in the hour that begins now, else 0", () -> {
            ReliefNet net = Nets.row(2, 1, 100);
            net.setLink(0, 0, 1);
            net.setLink(0, 1, 1);
            for (int due : new int[] {0, 1, 0}) {
                Check.equal(due, net.link(0, 5));
                net.run(1);
            }
        });
        doc.says("; 6: frames that were sent by it; 7: frames that were lost; 8: acknowledgements that were "
                + "lost", () -> {
            ReliefNet net = Nets.row(3, 9, 50);
            net.setRules(48, 9, Draws.around(50, "-+---++"));
            net.send(0, 1, 0);
            int[][] due = {{0, 0, 0}, {1, 1, 0}, {2, 1, 1}, {3, 2, 1}, {4, 3, 1}, {5, 3, 1}, {5, 3, 1}};
            for (int[] frames : due) {
                Check.row(new int[] {net.link(0, 6), net.link(0, 7), net.link(0, 8)}, frames);
                Check.row(new int[] {net.link(1, 6), net.link(1, 7), net.link(1, 8)}, 0, 0, 0);
                net.run(1);
            }
        });
        doc.says("Returns that number.", () -> Check.row(Nets.link(Nets.full(), 15), 3, 7, 0, 23, 100, 1, 0, 0, 0));
        doc.says("Throws `IndexOutOfBoundsException` if there is no such link", () -> {
            Refused.index(ReliefNet::new, net -> net.link(0, 0));
            Refused.index(() -> apart(8), net -> net.link(0, 0));
            Refused.indexBeyond(Nets::history, 0, 5, (net, link) -> net.link(link, 0));
            Refused.index(Nets::history, net -> net.link(6, 9), net -> net.link(-1, -1));
        });
        doc.says("Throws `IllegalArgumentException` if what is out of range", () ->
                Refused.argumentBeyond(Nets::history, 0, 8, (net, what) -> net.link(0, what)));
    }

    private static void count(Sentences doc) {
        doc.section("Promise 14");
        doc.says("- `what`: 0: stations; 1: links; 2: messages", () -> {
            Check.row(java.util.Arrays.copyOf(Nets.counts(new ReliefNet()), 3), 0, 0, 0);
            Check.row(java.util.Arrays.copyOf(Nets.counts(Nets.full()), 3), 8, 16, 24);
            Check.row(java.util.Arrays.copyOf(Nets.counts(Nets.history()), 3), 5, 6, 12);
        });
        doc.says("; 3: the time; 4: LIFE; 5: TRIES; 6: x", () -> {
            ReliefNet net = new ReliefNet();
            Check.row(new int[] {net.count(3), net.count(4), net.count(5), net.count(6)}, 0, 48, 3, 1);
            net.setRules(200, 9, 1000002);
            net.run(72);
            Check.row(new int[] {net.count(3), net.count(4), net.count(5), net.count(6)}, 72, 200, 9, 1000002);
            net.setRules(1, 1, 0);
            Check.row(new int[] {net.count(3), net.count(4), net.count(5), net.count(6)}, 72, 1, 1, 0);
        });
        doc.says("; 7: messages under way; 8: delivered ones; 9: ended ones; 10: copies that wait", () -> {
            ReliefNet net = Nets.row(2, 9, 100);
            for (int message = 0; message < 24; message++) {
                net.send(0, 1, 0);
            }
            Check.row(states(net), 24, 0, 0, 24);
            net.run(1);
            Check.row(states(net), 15, 9, 0, 15);
            net.takeBack(23);
            Check.row(states(net), 14, 9, 1, 14);
            net.takeBack(0);
            Check.row(states(net), 14, 9, 1, 14);
            net.run(2);
            Check.row(states(net), 0, 23, 1, 0);
            // A copy of a delivered message that waits counts too.
            ReliefNet twice = Nets.row(2, 9, 50);
            twice.setRules(48, 9, Draws.around(50, "+-"));
            twice.send(0, 1, 0);
            twice.run(1);
            Check.row(states(twice), 0, 1, 0, 1);
            ReliefNet ended = Nets.full();
            for (int message = 0; message < 24; message++) {
                ended.takeBack(message);
            }
            Check.row(states(ended), 0, 0, 24, 0);
        });
        doc.says("; 11: frames that were sent; 12: duplicates", () -> {
            ReliefNet net = Nets.row(3, 9, 50);
            net.setRules(48, 9, Draws.around(50, "-+-+-++"));
            net.send(0, 1, 0);
            int[][] due = {{0, 0}, {1, 0}, {2, 0}, {3, 1}, {4, 2}, {4, 2}};
            for (int[] frames : due) {
                Check.row(new int[] {net.count(11), net.count(12)}, frames);
                net.run(1);
            }
        });
        doc.says("; 13: events of the log", () -> {
            ReliefNet net = Nets.row(2, 9, 100);
            for (int event = 0; event < 24; event++) {
                Check.equal(event, net.count(13));
                net.send(0, 1, 0);
            }
            for (int event = 24; event < 45; event++) {
                Check.equal(Math.min(event, 40), net.count(13));
                net.takeBack(event - 24);
            }
            Check.equal(40, net.count(13));
        });
        doc.says("Returns that number.", () -> Check.row(Nets.counts(Nets.full()), 8, 16, 24, 0, 48, 3, 1, 24, 0, 0, 24,
                0, 0, 24));
        doc.says("Throws `IllegalArgumentException` if what is out of range", () -> {
            Refused.argumentBeyond(ReliefNet::new, 0, 13, ReliefNet::count);
            Refused.argumentBeyond(Nets::history, 0, 13, ReliefNet::count);
        });
    }

    private static int[] states(ReliefNet net) {
        return new int[] {net.count(7), net.count(8), net.count(9), net.count(10)};
    }
}
