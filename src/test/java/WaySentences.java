/** What the document says of ways, and of the promises 15 to 17. */
final class WaySentences {
    private static final int NONE = ReliefNet.NONE;

    private WaySentences() {
    }

    static void run(Sentences doc) {
        ways(doc);
        bestWays(doc);
        way(doc);
        pairs(doc);
    }

    /** Stations that are always on the air, and links given by both stations and their hours. */
    private static ReliefNet net(int stations, int[]... links) {
        ReliefNet net = new ReliefNet();
        for (int station = 0; station < stations; station++) {
            net.addStation(0, 23, 9);
        }
        for (int[] link : links) {
            net.addLink(link[0], link[1], link[2], link[3], 100);
        }
        return net;
    }

    private static int[] link(int one, int other, int from, int to) {
        return new int[] {one, other, from, to};
    }

    private static void ways(Sentences doc) {
        doc.section("WAYS");
        doc.says("A way from a station at a time to another station uses links one after the other, each in an hour in "
                + "which it is open", () -> {
            // The last hour of a link still counts, the one behind it does not.
            ReliefNet net = net(2, link(0, 1, 5, 6));
            Check.row(Nets.way(net, 0, 1, 4), 6, 1, NONE);
            Check.row(Nets.way(net, 0, 1, 5), 6, 1, 1);
            Check.row(Nets.way(net, 0, 1, 6), 7, 1, 1);
            Check.row(Nets.way(net, 0, 1, 7), 30, 1, NONE);
            net.setStation(1, 0, 6);
            Check.row(Nets.way(net, 0, 1, 5), 7, 1, NONE);
        });
        doc.says(", and is one station further an hour later", () -> {
            // Rows of all eight stations in different orders: each way takes as many hours as links.
            for (int step : new int[] {1, 3, 5, 7}) {
                ReliefNet net = Nets.eightStations();
                int[] row = new int[8];
                for (int place = 0; place < 8; place++) {
                    row[place] = (place * step + 4) % 8;
                }
                for (int place = 0; place < 7; place++) {
                    net.addLink(row[place], row[place + 1], 0, 23, 0);
                }
                for (int from = 0; from < 8; from++) {
                    for (int to = 0; to < 8; to++) {
                        int links = Math.abs(from - to);
                        if (links > 0) {
                            int next = row[from < to ? from + 1 : from - 1];
                            Check.row(Nets.way(net, row[from], row[to], 50), 50 + links, links, next);
                        }
                    }
                }
            }
            // Two links that are open in one and the same hour take two days.
            ReliefNet same = net(3, link(0, 1, 5, 5), link(1, 2, 5, 5));
            Check.row(Nets.way(same, 0, 2, 5), NONE, NONE, NONE);
            same.setLink(1, 1, 6);
            Check.row(Nets.way(same, 0, 2, 5), 7, 2, 1);
            // As short as by 3 and 4 it would be by 1 and 2, if one could leave 1 in the hour in which one comes.
            ReliefNet gone = net(6, link(0, 1, 0, 0), link(1, 2, 0, 0), link(2, 5, 5, 5), link(0, 3, 2, 2),
                    link(3, 4, 3, 3), link(4, 5, 5, 5));
            Check.row(Nets.way(gone, 0, 5, 0), 6, 3, NONE);
            gone.setLink(1, 1, 1);
            Check.row(Nets.way(gone, 0, 5, 0), 6, 3, 1);
        });
        doc.says("; it can wait at any station.", () -> {
            // At the first one, on the way, as long as 23 hours.
            Check.row(Nets.way(net(2, link(0, 1, 0, 0)), 0, 1, 1), 25, 1, NONE);
            Check.row(Nets.way(net(3, link(0, 1, 0, 0), link(1, 2, 23, 23)), 0, 2, 0), 24, 2, 1);
            Check.row(Nets.way(net(4, link(0, 1, 3, 3), link(1, 2, 9, 9), link(2, 3, 20, 20)), 0, 3, 0), 21, 3, NONE);
        });
        doc.says("It arrives at the time at which it comes there", () -> {
            ReliefNet net = net(2, link(0, 1, 23, 0));
            Check.equal(24, net.way(0, 1, 23, 0));
            Check.equal(25, net.way(0, 1, 24, 0));
            Check.equal(100008, net.way(0, 1, 100000, 0));
        });
        doc.says("; ways that arrive more than 24 hours after the time at which they begin do not count.",
                WaySentences::dayLong);
    }

    private static void dayLong() {
        // 0 to 1 at 7, 1 to 2 at 6: from 7 on it takes 24 hours, from 6 on it would take 25.
        ReliefNet net = net(3, link(0, 1, 7, 7), link(1, 2, 6, 6));
        Check.row(Nets.way(net, 0, 2, 7), 31, 2, 1);
        Check.row(Nets.way(net, 0, 2, 6), NONE, NONE, NONE);
        Check.row(Nets.way(net, 0, 2, 8), NONE, NONE, NONE);
        net.setLink(1, 0, 7);
        net.setLink(1, 1, 7);
        Check.row(Nets.way(net, 0, 2, 7), NONE, NONE, NONE);
        // One link, as late as it can be: in the 24th hour.
        Check.row(Nets.way(net, 0, 1, 8), 32, 1, NONE);
        // The same holds for the ways of a copy, and for pairs.
        for (int hour = 6; hour <= 7; hour++) {
            ReliefNet sent = net(3, link(0, 1, 7, 7), link(1, 2, hour, hour));
            sent.run(7);
            sent.send(0, 2, 0);
            Check.equal(hour == 6 ? 1 : NONE, sent.copy(0, 0, 4));
            Check.equal(hour == 6 ? "0 " : "", Nets.sent(sent, 0));
            Check.equal(hour == 6 ? 5 : 4, sent.reachable());
        }
    }

    private static void bestWays(Sentences doc) {
        doc.says("The best ways are those that arrive earliest", () -> {
            // Seven links arrive at 7, one link an hour later.
            ReliefNet net = Nets.row(8, 1, 0);
            net.addLink(0, 7, 7, 7, 0);
            Check.row(Nets.way(net, 0, 7, 0), 7, 7, 1);
            net.setLink(7, 0, 6);
            Check.row(Nets.way(net, 0, 7, 0), 7, 1, NONE);
        });
        doc.says(", and of these those with the fewest links.", () -> {
            ReliefNet net = net(4, link(0, 1, 0, 0), link(1, 2, 1, 1), link(2, 3, 2, 2), link(1, 3, 2, 2));
            Check.row(Nets.way(net, 0, 3, 0), 3, 2, 1);
            net.setLink(3, 0, 3);
            net.setLink(3, 1, 3);
            Check.row(Nets.way(net, 0, 3, 0), 3, 3, 1);
        });
        doc.says("The ways of a copy go from its station at the present time to the station to which the message goes",
                () -> {
            ReliefNet net = net(3, link(0, 1, 0, 0), link(0, 2, 1, 1), link(2, 1, 2, 2));
            net.send(0, 1, 0);
            Check.equal(1, net.copy(0, 0, 4));
            net.setLink(0, 0, 5);
            net.setLink(0, 1, 5);
            Check.equal(NONE, net.copy(0, 0, 4));
            net.run(1);
            Check.equal(2, net.copy(0, 0, 4));
            net.run(1);
            Check.equal(1, net.copy(0, 2, 4));
        });
        doc.says(", and do not come to stations of its path.", () -> {
            // At the second station only the way back over the first one would lead on now.
            for (int one = 0; one < 8; one++) {
                int second = (one + 3) % 8;
                int last = (one + 6) % 8;
                ReliefNet net = net(8, link(one, second, 0, 23), link(second, last, 0, 23));
                net.send(one, last, 0);
                net.run(1);
                net.addLink(one, last, 0, 23, 100);
                net.setLink(1, 0, 20);
                Check.row(Nets.way(net, second, last, 1), 3, 2, one);
                Check.equal(NONE, net.copy(0, second, 4));
                Check.equal("", Nets.sent(net, second));
                net.setLink(1, 0, 1);
                Check.equal(last, net.copy(0, second, 4));
            }
            // In a row of eight the copies have paths of up to seven stations, and still go on.
            ReliefNet row = Nets.row(8, 9, 100);
            row.send(0, 7, 0);
            for (int station = 0; station < 7; station++) {
                Check.equal(station + 1, row.copy(0, station, 4));
                Check.equal(station + 1, row.copy(0, station, 3));
                row.run(1);
            }
        });
        doc.says("The NEXT station of a copy that waits is the lowest station to which a best way of the copy goes in "
                + "the hour that begins at the present time", () -> {
            // From 7 to 0 by any of six; the lowest of those that are open counts.
            ReliefNet net = Nets.eightStations();
            for (int between = 1; between < 7; between++) {
                net.addLink(7, between, 0, 23, 100);
                net.addLink(between, 0, 0, 23, 100);
            }
            net.send(7, 0, 0);
            for (int between = 1; between < 7; between++) {
                Check.equal(between, net.copy(0, 7, 4));
                net.setLink(2 * between - 2, 0, 1);
            }
            // Now all best ways begin an hour later.
            Check.equal(NONE, net.copy(0, 7, 4));
            Check.row(Nets.way(net, 7, 0, 0), 3, 2, NONE);
            net.setLink(10, 0, 0);
            Check.equal(6, net.copy(0, 7, 4));
        });
        doc.says("; there is none if no best way uses a link in that hour.", () -> {
            // A link is open now, but the best way waits for a later one.
            ReliefNet net = net(3, link(0, 1, 0, 0), link(1, 2, 5, 5), link(0, 2, 4, 4));
            net.send(0, 2, 0);
            Check.equal(NONE, net.copy(0, 0, 4));
            Check.row(Nets.way(net, 0, 2, 0), 5, 1, NONE);
            // As early, but with fewer links.
            net.setLink(1, 0, 4);
            net.setLink(1, 1, 4);
            Check.equal(NONE, net.copy(0, 0, 4));
            // Likewise on the way, at any station.
            for (int one = 0; one < 8; one++) {
                int here = (one + 3) % 8;
                ReliefNet later = net(8, link(one, here, 0, 0), link(here, (one + 6) % 8, 4, 4),
                        link(here, (one + 1) % 8, 1, 1), link((one + 1) % 8, (one + 6) % 8, 4, 4));
                later.send(one, (one + 6) % 8, 0);
                later.run(1);
                Check.row(Nets.copy(later, 0, here), 1, 0, 1, 2, NONE);
                later.setLink(1, 0, 5);
                later.setLink(1, 1, 5);
                Check.equal((one + 1) % 8, later.copy(0, here, 4));
            }
            // As early with as many: one of both ways goes now.
            ReliefNet two = net(4, link(0, 1, 0, 0), link(1, 3, 5, 5), link(0, 2, 3, 3), link(2, 3, 5, 5));
            two.send(0, 3, 0);
            Check.equal(1, two.copy(0, 0, 4));
        });
    }

    private static void way(Sentences doc) {
        doc.section("Promise 15");
        doc.plain("---- ways");
        doc.says("- `from`: a station", () -> {
            Check.equal(7, Nets.row(8, 1, 1).way(0, 7, 0, 0));
            Check.equal(7, Nets.row(8, 1, 1).way(7, 0, 0, 0));
            Refused.indexBeyond(() -> Nets.row(8, 1, 1), 0, 7, (net, from) -> net.way(from, 4, 0, 0));
            Refused.indexBeyond(() -> Nets.row(2, 1, 1), 0, 1, (net, from) -> net.way(from, 0, 0, 0));
        });
        doc.says("- `to`: another station", () -> {
            Check.equal(4, Nets.row(8, 1, 1).way(4, 0, 0, 0));
            Check.equal(3, Nets.row(8, 1, 1).way(4, 7, 0, 0));
            Refused.indexBeyond(() -> Nets.row(8, 1, 1), 0, 7, (net, to) -> net.way(4, to, 0, 0));
            Refused.argument(() -> Nets.row(8, 1, 1), net -> net.way(0, 0, 0, 0), net -> net.way(7, 7, 0, 0));
        });
        doc.says("- `time`: 0 to 100000, the time at which the way begins", () -> {
            ReliefNet net = Nets.row(2, 1, 1);
            Check.row(Nets.way(net, 0, 1, 0), 1, 1, 1);
            Check.row(Nets.way(net, 0, 1, 100000), 100001, 1, 1);
            // Not the present time; 100000 is the hour 16 of a day.
            net.setLink(0, 0, 15);
            net.setLink(0, 1, 15);
            net.run(15);
            Check.row(Nets.way(net, 0, 1, 0), 16, 1, NONE);
            Check.row(Nets.way(net, 0, 1, 100000), 100024, 1, NONE);
            Check.row(Nets.way(net, 0, 1, 99999), 100000, 1, 1);
            Refused.argumentBeyond(() -> Nets.row(2, 1, 1), 0, 100000, (any, time) -> any.way(0, 1, time, 0));
        });
        doc.says("- `what`: 0: the time at which the best ways arrive; 1: their links", () -> {
            Check.row(Nets.way(Nets.row(8, 1, 1), 0, 7, 93), 100, 7, 1);
            Check.row(Nets.way(Nets.row(8, 1, 1), 3, 4, 93), 94, 1, 4);
        });
        doc.says("; 2: the lowest station to which a best way goes in the hour that begins at that time (NONE if none "
                + "uses a link in it)", () -> {
            ReliefNet net = net(4, link(3, 2, 0, 0), link(3, 1, 0, 0), link(2, 0, 5, 5), link(1, 0, 5, 5));
            Check.equal(1, net.way(3, 0, 0, 2));
            Check.equal(NONE, net.way(3, 0, 23, 2));
            Check.equal(NONE, net.way(3, 1, 1, 2));
            Check.equal(0, net.way(1, 0, 5, 2));
        });
        doc.says("Returns that number; NONE if there is no way.", () -> {
            Check.row(Nets.way(net(2), 0, 1, 0), NONE, NONE, NONE);
            Check.row(Nets.way(net(3, link(0, 1, 0, 23)), 0, 2, 100000), NONE, NONE, NONE);
            // A link that is never open.
            ReliefNet net = net(2, link(0, 1, 0, 11));
            net.setStation(1, 0, 12);
            Check.row(Nets.way(net, 0, 1, 0), NONE, NONE, NONE);
            net.setStation(1, 0, 11);
            Check.row(Nets.way(net, 0, 1, 0), 12, 1, NONE);
        });
        doc.says("Throws `IndexOutOfBoundsException` if there is no such station", () -> {
            Refused.index(ReliefNet::new, net -> net.way(0, 0, 0, 0), net -> net.way(0, 1, 0, 0));
            Refused.indexBeyond(Nets::history, 0, 4, (net, from) -> net.way(from, 3, 0, 0));
            Refused.indexBeyond(Nets::history, 0, 4, (net, to) -> net.way(3, to, 0, 0));
            Refused.index(Nets::history, net -> net.way(5, 5, 0, 0), net -> net.way(-1, -1, -1, -1),
                    net -> net.way(0, 5, 100001, 3));
        });
        doc.says("Throws `IllegalArgumentException` if both stations are the same", () ->
                Refused.argument(Nets::history, net -> net.way(0, 0, 0, 0), net -> net.way(4, 4, 0, 2)));
        doc.says(", or time or what is out of range", () -> {
            Refused.argumentBeyond(Nets::history, 0, 100000, (net, time) -> net.way(0, 1, time, 0));
            Refused.argumentBeyond(Nets::history, 0, 2, (net, what) -> net.way(0, 1, 0, what));
        });
    }

    private static void pairs(Sentences doc) {
        doc.section("Promise 16");
        doc.says("Returns the number of ordered pairs of different stations between which there is a way that begins "
                + "now.",
                () -> {
            Check.equal(0, new ReliefNet().reachable());
            Check.equal(0, net(1).reachable());
            Check.equal(0, net(8).reachable());
            Check.equal(2, net(2, link(0, 1, 0, 0)).reachable());
            Check.equal(56, Nets.row(8, 1, 1).reachable());
            Check.equal(56, Nets.full().reachable());
            // One of both directions takes more than a day, which one depends on the time.
            ReliefNet net = net(3, link(0, 1, 3, 3), link(1, 2, 2, 2));
            Check.equal(5, net.reachable());
            Check.row(new int[] {net.way(0, 2, 0, 0), net.way(2, 0, 0, 0)}, NONE, 4);
            net.run(3);
            Check.equal(5, net.reachable());
            Check.row(new int[] {net.way(0, 2, 3, 0), net.way(2, 0, 3, 0)}, 27, NONE);
            // For one hour both directions take no more than a day.
            ReliefNet both = net(3, link(0, 1, 5, 5), link(1, 2, 3, 5));
            for (int due : new int[] {5, 5, 5, 5, 6, 5}) {
                Check.equal(due, both.reachable());
                both.run(1);
            }
            // With both links in the same hour neither direction has a way.
            net.setLink(0, 0, 2);
            net.setLink(0, 1, 2);
            Check.equal(4, net.reachable());
        });
        doc.section("Promise 17");
        doc.says("Finds the station without which most pairs would not be reachable: without a station, ways do not "
                + "come to it", () -> {
            // All ways from 0, 1, 2 to 4, 5, 6 go over 3.
            ReliefNet net = net(7, link(0, 3, 0, 23), link(1, 3, 0, 23), link(2, 3, 0, 23), link(4, 3, 0, 23),
                    link(5, 3, 0, 23), link(6, 3, 0, 23));
            Check.equal(3, net.keyStation());
            Check.equal(3, Nets.row(8, 1, 1).keyStation());
            // Only one of the ways between 0 and 2 takes no more than a day, and it goes over 1.
            Check.equal(1, net(3, link(0, 1, 1, 1), link(1, 2, 3, 3)).keyStation());
        });
        doc.says(", and pairs with it do not count.", () -> {
            // Without 0 as many pairs are left, 6 and 6, as without the middle one of 4, 5 and 6; those from 0 to the
            // three others that it hears do not count.
            Check.equal(0, net(7, link(0, 1, 0, 23), link(0, 2, 0, 23), link(0, 3, 0, 23), link(1, 2, 0, 23),
                    link(1, 3, 0, 23), link(2, 3, 0, 23), link(4, 5, 0, 23), link(5, 6, 0, 23)).keyStation());
            Check.equal(2, net(4, link(2, 3, 0, 23)).keyStation());
        });
        doc.says("Returns of all stations the one without which the fewest pairs are reachable", () ->
                Check.equal(7, net(8, link(7, 5, 0, 23), link(7, 6, 0, 23), link(0, 1, 0, 23)).keyStation()));
        doc.says(", of several the lowest one", () -> {
            // Pairs that are reachable now: at 4 o'clock 0, 1 and 2 have as many as 3, 4 and 5, before they have less.
            ReliefNet parts = net(6, link(0, 1, 5, 5), link(1, 2, 3, 5), link(3, 4, 0, 23), link(4, 5, 0, 23));
            for (int due : new int[] {4, 4, 4, 4, 1, 4}) {
                Check.equal(due, parts.keyStation());
                parts.run(1);
            }
            Check.equal(0, net(8).keyStation());
            Check.equal(0, net(1).keyStation());
            Check.equal(0, net(2, link(0, 1, 0, 23)).keyStation());
            Check.equal(6, net(8, link(6, 7, 0, 23)).keyStation());
            Check.equal(1, Nets.row(4, 1, 1).keyStation());
        });
        doc.says("; NONE without stations.", () -> {
            Check.equal(NONE, new ReliefNet().keyStation());
            ReliefNet net = Nets.full();
            Check.equal(0, net.keyStation());
            net.load();
            Check.equal(NONE, net.keyStation());
        });
    }
}
