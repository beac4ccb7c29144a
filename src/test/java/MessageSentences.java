/** What the document says of messages and copies, and of the promises 18 to 24. */
final class MessageSentences {
    private static final int NONE = ReliefNet.NONE;

    private MessageSentences() {
    }

    static void run(Sentences doc) {
        messages(doc);
        states(doc);
        copies(doc);
        underWay(doc);
        send(doc);
        setPriority(doc);
        takeBack(doc);
        message(doc);
        copy(doc);
        path(doc);
        sends(doc);
    }

    private static void messages(Sentences doc) {
        doc.section("MESSAGES AND COPIES");
        doc.says("There are at most 24 messages, numbered from 0.", () -> {
            ReliefNet net = Nets.row(2, 9, 100);
            for (int message = 0; message < 24; message++) {
                int none = message;
                Check.equal(message, net.count(2));
                Check.refused(IndexOutOfBoundsException.class, () -> net.message(none, 0));
                Check.equal(message, net.send(message % 2, 1 - message % 2, message % 4));
            }
            Check.equal(24, net.count(2));
            for (int message = 0; message < 24; message++) {
                int[] numbers = java.util.Arrays.copyOf(Nets.message(net, message), 3);
                Check.row(numbers, message % 2, 1 - message % 2, message % 4);
            }
            Refused.state(Nets::full, any -> any.send(0, 1, 0));
            Refused.index(Nets::full, any -> any.message(24, 0));
        });
        doc.says("A message goes from a station to another one, has a priority (0 to 3)", () -> {
            ReliefNet net = Nets.eightStations();
            net.send(0, 7, 0);
            net.send(7, 0, 3);
            Check.row(java.util.Arrays.copyOf(Nets.message(net, 0), 3), 0, 7, 0);
            Check.row(java.util.Arrays.copyOf(Nets.message(net, 1), 3), 7, 0, 3);
            Refused.argument(() -> Nets.row(8, 9, 0), any -> any.send(0, 0, 0), any -> any.send(7, 7, 0),
                    any -> any.send(0, 7, -1), any -> any.send(0, 7, 4));
        });
        doc.says("and a time at which it was born.", () -> {
            ReliefNet net = Nets.row(2, 9, 0);
            net.send(0, 1, 0);
            net.run(1);
            net.send(0, 1, 0);
            net.run(72);
            net.send(0, 1, 0);
            Check.row(new int[] {net.message(0, 3), net.message(1, 3), net.message(2, 3)}, 0, 1, 73);
        });
        doc.says("Each station has at most one copy of a message, which has a state:", () -> {
            // The same frame is got three times.
            ReliefNet net = Nets.drawn(3, 9, "+-+-+-");
            net.setLink(1, 0, 20);
            net.run(1);
            int[] first = Nets.copy(net, 0, 1);
            net.run(2);
            Check.equal(2, net.count(12));
            Check.equal(2, net.count(10));
            Check.equal(1, net.station(1, 4));
            Check.row(Nets.copy(net, 0, 1), first);
        });
    }

    private static void states(Sentences doc) {
        doc.says("0 there is none", () -> {
            ReliefNet net = Nets.row(3, 9, 100);
            net.send(0, 2, 0);
            Check.row(new int[] {net.copy(0, 1, 0), net.copy(0, 2, 0)}, 0, 0);
            net.run(1);
            Check.equal(0, net.copy(0, 2, 0));
        });
        doc.says("; 1 it waits", () -> {
            ReliefNet net = Nets.drawn(2, 2, "-");
            Check.equal(1, net.copy(0, 0, 0));
            net.run(1);
            Check.equal(1, net.copy(0, 0, 0));
        });
        doc.says("; 2 it was passed on", () -> {
            ReliefNet net = Nets.row(3, 9, 100);
            net.send(0, 2, 0);
            net.run(1);
            Check.row(new int[] {net.copy(0, 0, 0), net.copy(0, 1, 0)}, 2, 1);
            net.run(72);
            Check.row(new int[] {net.copy(0, 0, 0), net.copy(0, 1, 0)}, 2, 2);
        });
        doc.says("; 3 it was stopped", () -> {
            ReliefNet net = Nets.drawn(2, 1, "-");
            net.run(1);
            Check.equal(3, net.copy(0, 0, 0));
            ReliefNet back = Nets.drawn(2, 9, "-");
            back.takeBack(0);
            Check.equal(3, back.copy(0, 0, 0));
            // A stopped copy does not expire.
            back.run(72);
            Check.equal(3, back.copy(0, 0, 0));
        });
        doc.says("; 4 it expired", () -> {
            ReliefNet net = Nets.row(3, 9, 0);
            net.setRules(1, 9, 1);
            net.send(0, 2, 0);
            net.run(2);
            Check.equal(4, net.copy(0, 0, 0));
            Check.equal(0, net.takeBack(0));
            Check.equal(4, net.copy(0, 0, 0));
        });
        doc.says("; 5 it is delivered (at the station to which the message goes).", () -> {
            ReliefNet net = Nets.row(3, 9, 100);
            net.send(0, 2, 0);
            net.run(2);
            Check.row(new int[] {net.copy(0, 0, 0), net.copy(0, 1, 0), net.copy(0, 2, 0)}, 2, 2, 5);
            Check.equal(0, net.takeBack(0));
            net.run(72);
            Check.equal(5, net.copy(0, 2, 0));
        });
    }

    private static void copies(Sentences doc) {
        doc.says("A copy has tries (0 at first)", () -> {
            ReliefNet net = Nets.drawn(3, 9, "--+-");
            Check.equal(0, net.copy(0, 0, 1));
            net.run(2);
            Check.equal(2, net.copy(0, 0, 1));
            net.run(1);
            // The tries of the copy that was sent are not those of the new one.
            Check.row(new int[] {net.copy(0, 0, 1), net.copy(0, 1, 1)}, 3, 0);
        });
        doc.says(", the time from which on it is there", () -> {
            ReliefNet net = Nets.row(2, 9, 100);
            net.send(0, 1, 0);
            Check.equal(0, net.copy(0, 0, 2));
            net.run(72);
            net.send(1, 0, 0);
            Check.row(new int[] {net.copy(0, 1, 2), net.copy(1, 1, 2)}, 1, 72);
        });
        doc.says(", and a path: the stations that it came by, from the first one of the message on, its own station "
                + "last.",
                () -> {
            ReliefNet net = Nets.row(8, 9, 100);
            net.send(7, 0, 0);
            Check.equal(1, net.copy(0, 7, 3));
            net.run(7);
            for (int station = 0; station < 8; station++) {
                Check.equal(8 - station, net.copy(0, station, 3));
                Check.equal(7, net.path(0, station, 0));
                Check.equal(station, net.path(0, station, 7 - station));
            }
        });
        doc.says("A new message has a copy that waits at its first station, from the time at which it is born "
                + "on.", () -> {
            ReliefNet net = Nets.row(2, 9, 100);
            net.run(30);
            net.send(1, 0, 0);
            Check.row(Nets.copy(net, 0, 1), 1, 0, 30, 1, 0);
            Check.row(Nets.copy(net, 0, 0), 0, NONE, NONE, NONE, NONE);
            // It is there in that very hour.
            Check.equal("0 ", Nets.sent(net, 1));
            Check.equal(1, net.run(1));
        });
    }

    private static void underWay(Sentences doc) {
        doc.says("A message is under way (0) as long as no copy is delivered and some copy waits", () -> {
            ReliefNet net = Nets.row(3, 9, 100);
            net.send(0, 2, 0);
            Check.equal(0, net.message(0, 4));
            net.run(1);
            Check.equal(0, net.message(0, 4));
            // One copy is stopped, another one waits.
            ReliefNet stopped = Nets.drawn(3, 1, "+-");
            stopped.run(1);
            Check.row(new int[] {stopped.copy(0, 0, 0), stopped.copy(0, 1, 0), stopped.message(0, 4)}, 3, 1, 0);
        });
        doc.says("; it is delivered (1) if a copy is delivered", () -> {
            ReliefNet net = Nets.drawn(2, 9, "+-");
            net.run(1);
            Check.row(new int[] {net.copy(0, 0, 0), net.message(0, 4)}, 1, 1);
            // Also if the other copies have ended.
            net.takeBack(0);
            Check.row(new int[] {net.copy(0, 0, 0), net.message(0, 4)}, 3, 1);
        });
        doc.says("; otherwise it has ended (2).", () -> {
            ReliefNet net = Nets.drawn(3, 1, "+--");
            net.run(2);
            Check.row(new int[] {net.copy(0, 0, 0), net.copy(0, 1, 0), net.message(0, 4)}, 3, 3, 2);
            ReliefNet back = Nets.row(3, 9, 100);
            back.send(0, 2, 0);
            back.run(1);
            back.takeBack(0);
            Check.row(new int[] {back.copy(0, 0, 0), back.copy(0, 1, 0), back.message(0, 4)}, 2, 3, 2);
        });
        doc.says("(Copies of a delivered message that wait are still sent.)", () -> {
            ReliefNet net = Nets.drawn(2, 9, "+-+-++");
            net.run(1);
            Check.equal("0 ", Nets.sent(net, 0));
            Check.equal(1, net.copy(0, 0, 4));
            net.run(2);
            Check.row(new int[] {net.count(11), net.count(12), net.copy(0, 0, 0)}, 3, 2, 2);
        });
    }

    private static void send(Sentences doc) {
        doc.section("Promise 18");
        doc.plain("---- messages");
        doc.says("Adds a message, which is born now.", () -> {
            ReliefNet net = Nets.row(3, 9, 0);
            net.run(50);
            net.send(2, 0, 1);
            Check.row(Nets.message(net, 0), 2, 0, 1, 50, 0, NONE, NONE, 0, 0, 1, NONE, NONE);
            Check.row(Nets.event(net, 0), 50, 0, 0, 2, NONE);
        });
        doc.says("- `from`: a station", () -> {
            for (int from : new int[] {0, 7}) {
                ReliefNet net = Nets.eightStations();
                net.send(from, 4, 0);
                Check.row(new int[] {net.message(0, 0), net.copy(0, from, 0)}, from, 1);
            }
            Refused.indexBeyond(Nets::eightStations, 0, 7, (net, from) -> net.send(from, 4, 0));
            Refused.indexBeyond(() -> Nets.row(2, 1, 1), 0, 1, (net, from) -> net.send(from, 0, 0));
        });
        doc.says("- `to`: another station", () -> {
            for (int to : new int[] {0, 7}) {
                ReliefNet net = Nets.eightStations();
                net.send(4, to, 0);
                Check.equal(to, net.message(0, 1));
            }
            Refused.indexBeyond(Nets::eightStations, 0, 7, (net, to) -> net.send(4, to, 0));
            Refused.argument(Nets::eightStations, net -> net.send(0, 0, 0), net -> net.send(7, 7, 0));
        });
        doc.says("- `priority`: 0 to 3", () -> Refused.range(Nets::eightStations, 0, 3,
                (net, priority) -> net.send(0, 7, priority), net -> net.message(0, 2)));
        doc.says("Returns the number of the message.", () -> {
            ReliefNet net = Nets.row(2, 9, 100);
            for (int message = 0; message < 24; message++) {
                Check.equal(message, net.send(0, 1, 0));
                net.run(1);
            }
        });
        doc.says("Throws `IndexOutOfBoundsException` if there is no such station", () -> {
            Refused.index(ReliefNet::new, net -> net.send(0, 0, 0), net -> net.send(0, 1, 0));
            Refused.indexBeyond(Nets::history, 0, 4, (net, from) -> net.send(from, 3, 0));
            Refused.indexBeyond(Nets::history, 0, 4, (net, to) -> net.send(3, to, 0));
            Refused.index(Nets::full, net -> net.send(8, 0, 0), net -> net.send(0, 8, 0), net -> net.send(8, 8, 0),
                    net -> net.send(-1, -1, -1), net -> net.send(0, -1, 4));
        });
        doc.says("Throws `IllegalArgumentException` if both stations are the same", () -> {
            Refused.argument(Nets::history, net -> net.send(0, 0, 0), net -> net.send(4, 4, 3));
            Refused.argument(Nets::full, net -> net.send(0, 0, 0));
        });
        doc.says(", or priority is out of range", () -> {
            Refused.argumentBeyond(Nets::history, 0, 3, (net, priority) -> net.send(0, 1, priority));
            Refused.argumentBeyond(Nets::full, 0, 3, (net, priority) -> net.send(0, 1, priority));
        });
        doc.says("Throws `IllegalStateException` if there are 24 messages", () -> {
            Refused.state(Nets::full, net -> net.send(0, 1, 0), net -> net.send(7, 6, 3));
            // Those that are delivered or have ended count too.
            Refused.state(() -> {
                ReliefNet net = Nets.full();
                net.run(72);
                return net;
            }, net -> net.send(0, 1, 0));
        });
    }

    private static void setPriority(Sentences doc) {
        doc.section("Promise 19");
        doc.says("Changes the priority of a message.", () -> {
            ReliefNet net = Nets.row(2, 1, 100);
            net.send(0, 1, 1);
            net.send(0, 1, 2);
            net.setPriority(0, 3);
            Check.row(new int[] {net.message(0, 2), net.message(1, 2)}, 3, 2);
            Check.equal("0 ", Nets.sent(net, 0));
        });
        doc.says("- `message`: a message", () -> {
            ReliefNet net = Nets.full();
            Check.equal(0, net.setPriority(0, 3));
            Check.equal(3, net.setPriority(23, 0));
            Refused.indexBeyond(Nets::full, 0, 23, (any, message) -> any.setPriority(message, 0));
            Refused.indexBeyond(Nets::history, 0, 11, (any, message) -> any.setPriority(message, 0));
        });
        doc.says("- `priority`: 0 to 3", () -> Refused.range(Nets::history, 0, 3,
                (net, priority) -> net.setPriority(1, priority), net -> net.message(1, 2)));
        doc.says("Returns the previous priority.", () -> {
            ReliefNet net = Nets.row(2, 1, 100);
            net.send(0, 1, 2);
            int previous = 2;
            for (int priority : new int[] {0, 3, 3, 1, 0, 0}) {
                Check.equal(previous, net.setPriority(0, priority));
                previous = priority;
            }
        });
        doc.says("Throws `IndexOutOfBoundsException` if there is no such message", () -> {
            Refused.index(ReliefNet::new, net -> net.setPriority(0, 0));
            Refused.index(() -> Nets.row(2, 1, 1), net -> net.setPriority(0, 0));
            Refused.indexBeyond(Nets::full, 0, 23, (net, message) -> net.setPriority(message, 0));
            Refused.index(Nets::full, net -> net.setPriority(24, 4), net -> net.setPriority(-1, -1));
        });
        doc.says("Throws `IllegalArgumentException` if priority is out of range", () ->
                Refused.argumentBeyond(Nets::full, 0, 3, (net, priority) -> net.setPriority(0, priority)));
    }

    private static void takeBack(Sentences doc) {
        doc.section("Promise 20");
        doc.says("Takes all copies of a message back that wait: they are stopped (by ascending stations).", () -> {
            ReliefNet net = Nets.drawn(4, 9, "+-+-+-");
            net.run(1);
            net.setLink(0, 0, 23);
            net.setLink(0, 1, 23);
            net.setRules(48, 9, Draws.around(50, "+-"));
            net.run(1);
            Check.equal(3, net.takeBack(0));
            int events = net.count(13);
            for (int station = 0; station < 3; station++) {
                Check.equal(3, net.copy(0, station, 0));
                Check.row(Nets.event(net, events - 3 + station), 2, 8, 0, station, NONE);
            }
            // Other messages are not touched.
            ReliefNet two = Nets.row(2, 1, 0);
            two.send(0, 1, 0);
            two.send(0, 1, 0);
            Check.equal(1, two.takeBack(1));
            Check.row(new int[] {two.copy(0, 0, 0), two.copy(1, 0, 0)}, 1, 3);
        });
        doc.says("- `message`: a message", () -> {
            Check.equal(1, Nets.full().takeBack(0));
            Check.equal(1, Nets.full().takeBack(23));
            Refused.indexBeyond(Nets::full, 0, 23, ReliefNet::takeBack);
            Refused.indexBeyond(Nets::history, 0, 11, ReliefNet::takeBack);
        });
        doc.says("Returns the number of these copies.", () -> {
            ReliefNet net = Nets.row(2, 9, 100);
            net.send(0, 1, 0);
            Check.equal(1, net.takeBack(0));
            Check.equal(0, net.takeBack(0));
            Check.equal(2, net.count(13));
            // None of an ended, a delivered or an expired message; two of one whose acknowledgement was lost.
            net.send(0, 1, 0);
            net.run(1);
            Check.equal(0, net.takeBack(1));
            ReliefNet twice = Nets.drawn(3, 9, "+-");
            twice.run(1);
            Check.equal(2, twice.takeBack(0));
        });
        doc.says("Throws `IndexOutOfBoundsException` if there is no such message", () -> {
            Refused.index(ReliefNet::new, net -> net.takeBack(0));
            Refused.index(() -> Nets.row(2, 1, 1), net -> net.takeBack(0));
            Refused.indexBeyond(Nets::full, 0, 23, ReliefNet::takeBack);
        });
    }

    private static void message(Sentences doc) {
        doc.section("Promise 21");
        doc.says("- `message`: a message", () -> {
            Check.row(java.util.Arrays.copyOf(Nets.message(Nets.full(), 0), 4), 0, 1, 0, 0);
            Check.row(java.util.Arrays.copyOf(Nets.message(Nets.full(), 23), 4), 7, 2, 3, 0);
            Refused.indexBeyond(Nets::full, 0, 23, (net, message) -> net.message(message, 0));
        });
        doc.says("- `what`: 0: first station; 1: station to which it goes; 2: priority; 3: the time at which it was "
                + "born",
                () -> {
            ReliefNet net = Nets.eightStations();
            net.send(0, 7, 0);
            net.run(72);
            net.send(7, 0, 3);
            Check.row(java.util.Arrays.copyOf(Nets.message(net, 0), 4), 0, 7, 0, 0);
            Check.row(java.util.Arrays.copyOf(Nets.message(net, 1), 4), 7, 0, 3, 72);
        });
        doc.says("; 4: 0 under way, 1 delivered, 2 ended", () -> {
            ReliefNet net = Nets.row(2, 9, 100);
            net.send(0, 1, 0);
            net.send(0, 1, 0);
            net.takeBack(1);
            net.send(0, 1, 0);
            Check.row(new int[] {net.message(0, 4), net.message(1, 4), net.message(2, 4)}, 0, 2, 0);
            net.setStation(0, 2, 1);
            net.run(1);
            Check.row(new int[] {net.message(0, 4), net.message(1, 4), net.message(2, 4)}, 1, 2, 0);
        });
        doc.says("; 5: the time from which on it is delivered (NONE if it is not)", () -> {
            ReliefNet net = Nets.row(2, 9, 100);
            net.send(0, 1, 0);
            Check.equal(NONE, net.message(0, 5));
            net.run(1);
            Check.equal(1, net.message(0, 5));
            net.run(72);
            Check.equal(1, net.message(0, 5));
            ReliefNet back = Nets.row(2, 9, 100);
            back.send(0, 1, 0);
            back.takeBack(0);
            Check.equal(NONE, back.message(0, 5));
        });
        doc.says("; 6: links of the path of the delivered copy (NONE likewise)", () -> {
            for (int stations = 2; stations <= 8; stations++) {
                ReliefNet net = Nets.row(stations, 9, 100);
                net.send(0, stations - 1, 0);
                net.run(Math.max(1, stations - 2));
                Check.equal(stations == 2 ? 1 : NONE, net.message(0, 6));
                net.run(1);
                Check.equal(stations - 1, net.message(0, 6));
            }
        });
        doc.says("; 7: frames that were sent of it; 8: duplicates of it; 9: copies that wait", () -> {
            ReliefNet net = Nets.drawn(2, 9, "-+-+-++");
            // The messages beside it do not count: one is taken back, one can't be sent.
            net.addStation(0, 23, 1);
            net.send(1, 0, 0);
            net.send(1, 2, 0);
            net.takeBack(1);
            int[][] due = {{0, 0, 1}, {1, 0, 1}, {2, 0, 1}, {3, 1, 1}, {4, 2, 0}, {4, 2, 0}};
            for (int[] numbers : due) {
                Check.row(new int[] {net.message(0, 7), net.message(0, 8), net.message(0, 9)}, numbers);
                Check.row(new int[] {net.message(1, 7), net.message(1, 8), net.message(1, 9)}, 0, 0, 0);
                Check.row(new int[] {net.message(2, 7), net.message(2, 8), net.message(2, 9)}, 0, 0, 1);
                net.run(1);
            }
        });
        doc.says("; 10: the station of its noted end (NONE without one); 11: the station to which that copy was sent "
                + "at last (NONE likewise)", () -> {
            ReliefNet net = Nets.drawn(2, 2, "--");
            Check.row(new int[] {net.message(0, 10), net.message(0, 11)}, NONE, NONE);
            net.run(1);
            Check.row(new int[] {net.message(0, 10), net.message(0, 11)}, NONE, NONE);
            net.run(1);
            Check.row(new int[] {net.message(0, 10), net.message(0, 11)}, 0, 1);
            ReliefNet good = Nets.row(2, 9, 100);
            good.send(0, 1, 0);
            good.run(1);
            Check.row(new int[] {good.message(0, 10), good.message(0, 11)}, NONE, NONE);
            ReliefNet back = Nets.row(2, 9, 100);
            back.send(1, 0, 0);
            back.takeBack(0);
            Check.row(new int[] {back.message(0, 10), back.message(0, 11)}, 1, NONE);
        });
        doc.says("Returns that number.",
                () -> Check.row(Nets.message(Nets.full(), 23), 7, 2, 3, 0, 0, NONE, NONE, 0, 0, 1,
                NONE, NONE));
        doc.says("Throws `IndexOutOfBoundsException` if there is no such message", () -> {
            Refused.index(ReliefNet::new, net -> net.message(0, 0));
            Refused.index(Nets::eightStations, net -> net.message(0, 0));
            Refused.indexBeyond(Nets::full, 0, 23, (net, message) -> net.message(message, 0));
            Refused.index(Nets::full, net -> net.message(24, 12), net -> net.message(-1, -1));
        });
        doc.says("Throws `IllegalArgumentException` if what is out of range", () ->
                Refused.argumentBeyond(Nets::history, 0, 11, (net, what) -> net.message(0, what)));
    }

    private static void copy(Sentences doc) {
        doc.section("Promise 22");
        doc.says("- `message`: a message", () -> {
            Check.equal(1, Nets.full().copy(0, 0, 0));
            Check.equal(1, Nets.full().copy(23, 7, 0));
            Refused.indexBeyond(Nets::full, 0, 23, (net, message) -> net.copy(message, 0, 0));
            Refused.indexBeyond(Nets::history, 0, 11, (net, message) -> net.copy(message, 0, 0));
        });
        doc.says("- `station`: a station", () -> {
            Check.equal(0, Nets.full().copy(23, 0, 0));
            Check.equal(0, Nets.full().copy(0, 7, 0));
            Refused.indexBeyond(Nets::full, 0, 7, (net, station) -> net.copy(0, station, 0));
            Refused.indexBeyond(Nets::history, 0, 4, (net, station) -> net.copy(0, station, 0));
        });
        doc.says("- `what`: 0: state; 1: tries; 2: the time from which on it is there; 3: stations of its path", () -> {
            ReliefNet net = Nets.drawn(2, 9, "--------++");
            net.run(8);
            Check.row(Nets.copy(net, 0, 0), 1, 8, 0, 1, 1);
            net.run(1);
            Check.row(Nets.copy(net, 0, 0), 2, 8, 0, 1, NONE);
            Check.row(Nets.copy(net, 0, 1), 5, 0, 9, 2, NONE);
        });
        doc.says("; 4: its NEXT station now (NONE if it does not wait, or there is none).", () -> {
            ReliefNet net = Nets.row(3, 9, 100);
            net.send(2, 0, 0);
            net.send(0, 2, 0);
            Check.row(new int[] {net.copy(0, 2, 4), net.copy(1, 0, 4)}, 1, 1);
            net.takeBack(1);
            Check.equal(NONE, net.copy(1, 0, 4));
            net.run(1);
            Check.row(new int[] {net.copy(0, 2, 4), net.copy(0, 1, 4)}, NONE, 0);
            net.setStation(0, 0, 2);
            Check.equal(NONE, net.copy(0, 1, 4));
            net.run(2);
            Check.equal(NONE, net.copy(0, 0, 4));
        });
        doc.says("Without a copy all but the state are NONE", () -> {
            ReliefNet net = Nets.full();
            Check.row(Nets.copy(net, 0, 7), 0, NONE, NONE, NONE, NONE);
            Check.row(Nets.copy(net, 23, 0), 0, NONE, NONE, NONE, NONE);
        });
        doc.says("Returns that number.", () -> Check.row(Nets.copy(Nets.full(), 23, 7), 1, 0, 0, 1, 2));
        doc.says("Throws `IndexOutOfBoundsException` if there is no such message or station", () -> {
            Refused.index(ReliefNet::new, net -> net.copy(0, 0, 0));
            Refused.index(Nets::eightStations, net -> net.copy(0, 0, 0));
            Refused.indexBeyond(Nets::full, 0, 23, (net, message) -> net.copy(message, 0, 0));
            Refused.indexBeyond(Nets::full, 0, 7, (net, station) -> net.copy(0, station, 0));
            Refused.index(Nets::full, net -> net.copy(24, 8, 5), net -> net.copy(0, 8, 5),
                    net -> net.copy(24, 0, -1));
        });
        doc.says("Throws `IllegalArgumentException` if what is out of range", () -> {
            Refused.argumentBeyond(Nets::history, 0, 4, (net, what) -> net.copy(0, 0, what));
            // Also where there is no copy.
            Refused.argumentBeyond(Nets::full, 0, 4, (net, what) -> net.copy(0, 7, what));
        });
    }

    private static void path(Sentences doc) {
        Picture.Maker row = () -> {
            ReliefNet net = Nets.row(8, 9, 100);
            net.send(0, 7, 0);
            net.run(7);
            return net;
        };
        doc.section("Promise 23");
        doc.says("- `message`: a message", () -> {
            Check.equal(0, Nets.full().path(0, 0, 0));
            Check.equal(7, Nets.full().path(23, 7, 0));
            Refused.indexBeyond(Nets::full, 0, 23, (net, message) -> net.path(message, 0, 0));
            Refused.indexBeyond(row, 0, 0, (net, message) -> net.path(message, 0, 0));
        });
        doc.says("- `station`: a station", () -> {
            Check.equal(0, row.make().path(0, 0, 0));
            Check.equal(0, row.make().path(0, 7, 0));
            Refused.indexBeyond(row, 0, 7, (net, station) -> net.path(0, station, 0));
        });
        doc.says("- `index`: 0 for the first station", () -> {
            Check.equal(7, row.make().path(0, 7, 7));
            Refused.indexBeyond(row, 0, 7, (net, index) -> net.path(0, 7, index));
            Refused.indexBeyond(row, 0, 0, (net, index) -> net.path(0, 0, index));
        });
        doc.says("Returns the station at this place of the path of the copy.", () -> {
            ReliefNet net = row.make();
            for (int station = 0; station < 8; station++) {
                for (int index = 0; index <= station; index++) {
                    Check.equal(index, net.path(0, station, index));
                }
            }
        });
        doc.says("Throws `IndexOutOfBoundsException` if there is no such message or station", () -> {
            Refused.index(ReliefNet::new, net -> net.path(0, 0, 0));
            Refused.index(Nets::eightStations, net -> net.path(0, 0, 0));
            Refused.indexBeyond(Nets::full, 0, 23, (net, message) -> net.path(message, message < 0 ? 0 : 7, 0));
            Refused.indexBeyond(row, 0, 7, (net, station) -> net.path(0, station, 0));
        });
        doc.says(", the station has no copy", () -> {
            Refused.index(Nets::full, net -> net.path(0, 1, 0), net -> net.path(0, 7, 0), net -> net.path(23, 0, 0));
            Refused.index(() -> {
                ReliefNet net = Nets.row(3, 1, 100);
                net.send(0, 2, 0);
                net.run(1);
                return net;
            }, net -> net.path(0, 2, 0));
        });
        doc.says(", or its path has not so many stations", () -> {
            Refused.index(row, net -> net.path(0, 0, 1), net -> net.path(0, 0, -1), net -> net.path(0, 3, 4),
                    net -> net.path(0, 7, 8), net -> net.path(0, 7, Integer.MAX_VALUE));
            Check.equal(3, row.make().path(0, 3, 3));
        });
    }

    private static void sends(Sentences doc) {
        doc.section("Promise 24");
        doc.says("Tells what a station would send in the hour that begins now, if it was its turn now", () -> {
            ReliefNet net = Nets.row(3, 2, 100);
            for (int priority : new int[] {0, 3, 3, 1}) {
                net.send(0, 2, priority);
            }
            Check.equal("1 2 ", Nets.sent(net, 0));
            Check.equal("", Nets.sent(net, 1));
            net.run(1);
            Check.equal("3 0 ", Nets.sent(net, 0));
            Check.equal("1 2 ", Nets.sent(net, 1));
            net.setStation(2, 0, 2);
            Check.equal("", Nets.sent(net, 1));
        });
        doc.says("(copies that would expire in step 1 wait still).", () -> {
            ReliefNet net = Nets.row(2, 9, 0);
            net.setRules(2, 9, 1);
            net.send(0, 1, 0);
            for (String due : new String[] {"0 ", "0 ", "0 ", ""}) {
                Check.equal(due, Nets.sent(net, 0));
                net.run(1);
            }
            Check.equal(4, net.copy(0, 0, 0));
        });
        doc.says("- `station`: a station", () -> {
            ReliefNet net = Nets.full();
            Check.equal("0 8 16 ", Nets.sent(net, 0));
            Check.equal("7 15 23 ", Nets.sent(net, 7));
            Refused.indexBeyond(Nets::full, 0, 7, (any, station) -> any.sends(station, 0));
            Refused.indexBeyond(() -> Nets.row(1, 1, 1), 0, 0, (any, station) -> any.sends(station, 0));
        });
        doc.says("- `index`: 0 for the first frame", () -> {
            ReliefNet net = Nets.row(2, 9, 100);
            for (int message = 0; message < 24; message++) {
                net.send(0, 1, 0);
            }
            for (int index = 0; index < 9; index++) {
                Check.equal(index, net.sends(0, index));
            }
            Check.equal(NONE, net.sends(0, 9));
        });
        doc.says("Returns the message; NONE if it would not send so many frames", () -> {
            ReliefNet net = Nets.row(2, 1, 100);
            Check.equal(NONE, net.sends(0, 0));
            net.send(0, 1, 0);
            net.send(0, 1, 0);
            for (int index : new int[] {1, 2, 9, 24, Integer.MAX_VALUE}) {
                Check.equal(NONE, net.sends(0, index));
            }
            Check.equal(0, net.sends(0, 0));
            net.setStation(0, 2, 9);
            Check.row(new int[] {net.sends(0, 1), net.sends(0, 2)}, 1, NONE);
        });
        doc.says("(not any if it is not on the air).", () -> {
            ReliefNet net = Nets.row(2, 9, 100);
            net.send(0, 1, 0);
            net.setStation(0, 0, 1);
            Check.equal(NONE, net.sends(0, 0));
            net.run(1);
            Check.equal(0, net.sends(0, 0));
        });
        doc.says("Throws `IndexOutOfBoundsException` if there is no such station", () -> {
            Refused.index(ReliefNet::new, net -> net.sends(0, 0));
            Refused.indexBeyond(Nets::history, 0, 4, (net, station) -> net.sends(station, 0));
            Refused.index(Nets::history, net -> net.sends(5, -1));
        });
        doc.says(", or index is less than 0", () -> Refused.index(Nets::history, net -> net.sends(0, -1),
                net -> net.sends(4, Integer.MIN_VALUE)));
    }
}
