/** What the document says of the log, and of the promises 30 to 34. */
final class LogSentences {
    private static final int NONE = ReliefNet.NONE;

    private LogSentences() {
    }

    static void run(Sentences doc) {
        log(doc);
        kinds(doc);
        order(doc);
        event(doc);
        write(doc);
        output(doc);
        save(doc);
        restore(doc);
    }

    /** So many events: messages that are born, and from the 24th on taken back; each message is told twice. */
    private static ReliefNet events(int many) {
        ReliefNet net = Nets.row(2, 9, 100);
        for (int event = 0; event < many; event++) {
            if (event < 24) {
                net.send(0, 1, 0);
            } else {
                net.takeBack(event - 24);
            }
        }
        return net;
    }

    private static void log(Sentences doc) {
        doc.section("LOG");
        doc.says("The latest 40 events are kept, numbered from 0 (the earliest that is kept).", () -> {
            for (int many = 0; many <= 48; many++) {
                ReliefNet net = events(many);
                int kept = Math.min(many, 40);
                Check.equal(kept, net.count(13));
                for (int event = 0; event < kept; event++) {
                    int number = many - kept + event;
                    Check.row(Nets.event(net, event), 0, number < 24 ? 0 : 8, number % 24, 0, NONE);
                }
                Check.refused(IndexOutOfBoundsException.class, () -> net.event(kept, 0));
            }
            // 124 events: each message is born, lost in 9 hours, and stopped.
            ReliefNet many = Nets.row(2, 1, 0);
            many.setRules(200, 9, 1);
            for (int message = 0; message < 24; message++) {
                many.send(0, 1, 0);
            }
            many.run(72);
            many.run(18);
            Check.equal(40, many.count(13));
            for (int event = 0; event < 40; event++) {
                int message = 6 + event / 10;
                int hour = 9 * message + Math.min(event % 10, 8);
                Check.row(Nets.event(many, event), hour, event % 10 == 9 ? 6 : 2, message, 0, 1);
            }
        });
        doc.says("An event has a time (the present one when it happens)", () -> {
            ReliefNet net = Nets.row(2, 9, 100);
            net.send(0, 1, 0);
            net.run(1);
            net.run(71);
            net.send(1, 0, 0);
            net.run(72);
            int[] times = new int[6];
            for (int event = 0; event < 6; event++) {
                times[event] = net.event(event, 0);
            }
            Check.row(times, 0, 0, 0, 72, 72, 72);
        });
        doc.says(", a kind, a message, a station and another station", () -> {
            ReliefNet net = Nets.eightStations();
            net.addLink(7, 0, 0, 23, 100);
            for (int message = 0; message < 23; message++) {
                net.send(1, 2, 0);
            }
            net.send(7, 0, 3);
            net.run(1);
            Check.row(Nets.event(net, 23), 0, 0, 23, 7, NONE);
            Check.row(Nets.event(net, 24), 0, 5, 23, 0, 7);
            Check.row(Nets.event(net, 25), 0, 1, 23, 7, 0);
        });
        doc.says("(NONE for the kinds 0, 7 and 8):", () -> {
            ReliefNet net = Nets.row(2, 9, 0);
            net.setRules(1, 9, 1);
            net.send(0, 1, 0);
            net.send(1, 0, 0);
            net.takeBack(1);
            net.run(2);
            int[][] due = {{0, 0, 0, 0, NONE}, {0, 0, 1, 1, NONE}, {0, 8, 1, 1, NONE}, {0, 2, 0, 0, 1},
                {1, 7, 0, 0, NONE}};
            for (int event = 0; event < due.length; event++) {
                Check.row(Nets.event(net, event), due[event]);
            }
        });
    }

    private static void kinds(Sentences doc) {
        doc.says("0 a message is born (its first station)", () -> {
            ReliefNet net = Nets.eightStations();
            net.run(9);
            net.send(7, 3, 0);
            Check.row(Nets.event(net, 0), 9, 0, 0, 7, NONE);
            Check.equal(1, net.count(13));
        });
        doc.says("; 1 a frame was got and acknowledged (the sender, the receiver)", () -> {
            ReliefNet net = Nets.row(3, 9, 100);
            net.send(2, 0, 0);
            net.run(1);
            Check.row(Nets.event(net, 1), 0, 1, 0, 2, 1);
            Check.equal(2, net.count(13));
        });
        doc.says("; 2 a frame is lost (likewise)", () -> {
            ReliefNet net = Nets.row(3, 9, 0);
            net.send(2, 0, 0);
            net.run(1);
            Check.row(Nets.event(net, 1), 0, 2, 0, 2, 1);
            Check.equal(2, net.count(13));
        });
        doc.says("; 3 a frame was got, but its acknowledgement is lost (likewise)", () -> {
            ReliefNet net = Nets.drawn(3, 9, "+-");
            net.run(1);
            Check.row(Nets.event(net, 1), 0, 3, 0, 0, 1);
            Check.equal(2, net.count(13));
        });
        doc.says("; 4 a duplicate was found (the receiver, the sender)", () -> {
            ReliefNet net = Nets.drawn(2, 9, "+-++");
            net.run(2);
            Check.row(Nets.event(net, 3), 1, 4, 0, 1, 0);
            Check.equal(5, net.count(13));
        });
        doc.says("; 5 a message is delivered (the receiver, the sender)", () -> {
            ReliefNet net = Nets.row(3, 9, 100);
            net.send(2, 0, 0);
            net.run(2);
            Check.row(Nets.event(net, 2), 1, 5, 0, 0, 1);
            Check.equal(4, net.count(13));
        });
        doc.says("; 6 a copy is stopped (its station, the one to which it was sent at last)", () -> {
            ReliefNet net = Nets.row(3, 9, 0);
            net.setRules(48, 2, 1);
            net.send(2, 0, 0);
            net.run(1);
            Check.equal(2, net.count(13));
            net.run(1);
            Check.row(Nets.event(net, 3), 1, 6, 0, 2, 1);
            Check.equal(4, net.count(13));
        });
        doc.says("; 7 a copy expires (its station)", () -> {
            ReliefNet net = Nets.row(3, 9, 0);
            net.setRules(1, 9, 1);
            net.send(2, 0, 0);
            net.run(5);
            Check.row(Nets.event(net, 2), 1, 7, 0, 2, NONE);
            Check.equal(3, net.count(13));
        });
        doc.says("; 8 a copy is taken back (its station)", () -> {
            ReliefNet net = Nets.drawn(3, 9, "+-");
            net.run(1);
            net.takeBack(0);
            Check.row(Nets.event(net, 2), 1, 8, 0, 0, NONE);
            Check.row(Nets.event(net, 3), 1, 8, 0, 1, NONE);
            Check.equal(4, net.count(13));
            net.takeBack(0);
            Check.equal(4, net.count(13));
        });
    }

    private static String kindsFrom(ReliefNet net, int first) {
        StringBuilder all = new StringBuilder();
        for (int event = first; event < net.count(13); event++) {
            all.append(net.event(event, 1));
        }
        return all.toString();
    }

    private static void order(Sentences doc) {
        doc.says("For one frame the events come in this order: 4 or 5, if there is one, then 1, 2 or 3, then "
                + "6.", () -> {
            // The draws of a frame before, those of this one, TRIES, and the kinds of events that this one brings.
            String[][] due = {
                {"", "++", "9", "51"}, {"", "+-", "9", "53"}, {"", "-", "9", "2"},
                {"", "++", "1", "51"}, {"", "+-", "1", "536"}, {"", "-", "1", "26"},
                {"+-", "++", "2", "41"}, {"+-", "+-", "2", "436"}, {"+-", "-", "2", "26"}, {"+-", "+-", "9", "43"}};
            for (String[] one : due) {
                ReliefNet net = Nets.drawn(2, Integer.parseInt(one[2]), one[0] + one[1]);
                // The message is born, and the frame before brings a 5 and a 3.
                int first = 1;
                if (!one[0].isEmpty()) {
                    net.run(1);
                    first = 3;
                }
                net.run(1);
                Check.equal(one[3], kindsFrom(net, first));
            }
            // At a station on the way there is neither 4 nor 5.
            ReliefNet between = Nets.drawn(3, 1, "+-");
            between.run(1);
            Check.equal("36", kindsFrom(between, 1));
        });
    }

    private static void event(Sentences doc) {
        doc.section("Promise 30");
        doc.plain("---- log");
        doc.says("- `event`: an event of the log", () -> {
            for (int many : new int[] {1, 39, 40, 41}) {
                Refused.indexBeyond(() -> events(many), 0, Math.min(many, 40) - 1, (net, event) -> net.event(event, 0));
            }
            Check.equal(0, events(1).event(0, 2));
            Check.equal(15, events(40).event(39, 2));
        });
        doc.says("- `what`: 0: time; 1: kind; 2: message; 3: station; 4: other station", () -> {
            ReliefNet net = Nets.row(3, 9, 100);
            net.run(5);
            net.send(0, 2, 0);
            net.send(2, 1, 0);
            net.run(1);
            Check.row(Nets.event(net, 1), 5, 0, 1, 2, NONE);
            Check.row(Nets.event(net, 3), 5, 5, 1, 1, 2);
        });
        doc.says("Returns that number.", () -> Check.row(Nets.event(events(48), 39), 0, 8, 23, 0, NONE));
        doc.says("Throws `IndexOutOfBoundsException` if there is no such event", () -> {
            Refused.index(ReliefNet::new, net -> net.event(0, 0), net -> net.event(0, 5));
            Refused.indexBeyond(() -> events(7), 0, 6, (net, event) -> net.event(event, 0));
            Refused.indexBeyond(() -> events(48), 0, 39, (net, event) -> net.event(event, 0));
            Refused.index(() -> events(48), net -> net.event(47, 0), net -> net.event(40, 5),
                    net -> net.event(-1, -1));
        });
        doc.says("Throws `IllegalArgumentException` if what is out of range", () ->
                Refused.argumentBeyond(Nets::history, 0, 4, (net, what) -> net.event(0, what)));
    }

    private static void write(Sentences doc) {
        doc.section("Promise 31");
        doc.says("Writes an event as the output, which is replaced: the time, a space, m and the message, a space, "
                + "the station",
                () -> {
            ReliefNet net = Nets.row(3, 9, 100);
            net.send(2, 0, 0);
            net.run(2);
            Check.equal("1 m0 0>1 delivered", Nets.written(net, 2));
            // A shorter output leaves nothing of a longer one.
            Check.equal("0 m0 2 born", Nets.written(net, 0));
            Check.equal(NONE, net.output(11));
        });
        doc.says(", then > and the other station (only if there is one)", () -> {
            ReliefNet net = Nets.row(2, 9, 0);
            net.setRules(1, 9, 1);
            net.send(1, 0, 0);
            net.send(0, 1, 0);
            net.takeBack(1);
            net.run(2);
            String[] due = {"0 m0 1 born", "0 m1 0 born", "0 m1 0 back", "0 m0 1>0 lost", "1 m0 1 expired"};
            for (int event = 0; event < due.length; event++) {
                Check.equal(due[event], Nets.written(net, event));
            }
        });
        doc.says(", a space, and the word of the kind: born, passed, lost, unsure, double, delivered, stopped, "
                + "expired or back.",
                () -> {
            // A frame that is lost, one whose acknowledgement is, a duplicate likewise, and one that is passed on.
            ReliefNet net = Nets.drawn(2, 9, "-+-+-++");
            net.run(4);
            String[] due = {"0 m0 0 born", "0 m0 0>1 lost", "1 m0 1>0 delivered", "1 m0 0>1 unsure", "2 m0 1>0 double",
                "2 m0 0>1 unsure", "3 m0 1>0 double", "3 m0 0>1 passed"};
            for (int event = 0; event < due.length; event++) {
                Check.equal(due[event], Nets.written(net, event));
            }
            ReliefNet ends = Nets.drawn(2, 1, "-");
            ends.run(1);
            ends.send(0, 1, 0);
            ends.takeBack(1);
            ends.send(0, 1, 0);
            ends.setRules(1, 9, 1);
            ends.setLink(0, 0, 10);
            ends.run(2);
            due = new String[] {"0 m0 0 born", "0 m0 0>1 lost", "0 m0 0>1 stopped", "1 m1 0 born", "1 m1 0 back",
                "1 m2 0 born", "2 m2 0 expired"};
            for (int event = 0; event < due.length; event++) {
                Check.equal(due[event], Nets.written(ends, event));
            }
        });
        doc.says("Numbers are decimal without leading zeros.", LogSentences::decimal);
        doc.says("- `event`: an event of the log", () -> {
            Check.equal("0 m15 0 back", Nets.written(events(40), 39));
            Check.equal("0 m8 0 born", Nets.written(events(48), 0));
            Refused.indexBeyond(() -> events(40), 0, 39, ReliefNet::write);
            Refused.indexBeyond(() -> events(1), 0, 0, ReliefNet::write);
        });
        doc.says("Returns the number of bytes of the output.", () -> {
            Check.equal(11, events(1).write(0));
            Check.equal(12, events(24).write(23));
            ReliefNet net = Nets.row(2, 9, 100);
            for (int message = 0; message < 24; message++) {
                net.send(0, 1, 0);
            }
            net.run(72);
            Check.equal("2 m23 1>0 delivered".length(), net.write(38));
            Check.equal("2 m23 0>1 passed".length(), net.write(39));
        });
        doc.says("Throws `IndexOutOfBoundsException` if there is no such event", () -> {
            Refused.index(ReliefNet::new, net -> net.write(0), net -> net.write(-1));
            Refused.index(Nets::eightStations, net -> net.write(0));
            Refused.indexBeyond(Nets::history, 0, Nets.history().count(13) - 1, ReliefNet::write);
            Refused.index(() -> {
                ReliefNet net = events(7);
                net.write(6);
                return net;
            }, net -> net.write(7));
        });
    }

    /** Times and messages at which a number gets one digit more. */
    private static void decimal() {
        int[] times = {0, 9, 10, 99, 100, 999, 1000, 9999, 10000};
        for (int time : times) {
            ReliefNet net = Nets.row(2, 9, 100);
            for (int passed = 0; passed < time; passed += Math.min(72, time - passed)) {
                net.run(Math.min(72, time - passed));
            }
            net.send(1, 0, 0);
            Check.equal(time + " m0 1 born", Nets.written(net, 0));
        }
        for (int number : new int[] {0, 9, 10, 19, 20, 23}) {
            Check.equal("0 m" + number + " 0 born", Nets.written(events(24), number));
        }
        // The largest time that 512 calls can reach has as many digits.
        ReliefNet late = Nets.row(2, 9, 100);
        for (int run = 0; run < 480; run++) {
            late.run(72);
        }
        late.send(0, 1, 0);
        late.run(1);
        Check.equal("34560 m0 1>0 delivered".length(), late.write(1));
        Check.row(new int[] {late.output(0), late.output(4), late.output(5), late.output(21), late.output(22)},
                '3', '0', ' ', 'd', NONE);
    }

    private static void output(Sentences doc) {
        doc.section("Promise 32");
        doc.says("- `index`: 0 for the first byte", () -> {
            ReliefNet net = Nets.row(2, 9, 100);
            net.send(1, 0, 0);
            net.write(0);
            Check.row(new int[] {net.output(0), net.output(1), net.output(2), net.output(10)}, '0', ' ', 'm', 'n');
        });
        doc.says("Returns this byte of the output", () -> {
            ReliefNet net = events(24);
            String due = "0 m23 0 born";
            Check.equal(due.length(), net.write(23));
            for (int index = 0; index < due.length(); index++) {
                Check.equal((int) due.charAt(index), net.output(index));
            }
            // It stays until it is replaced, whatever else happens.
            net.run(3);
            net.save(0);
            net.restore(0);
            net.load();
            Check.equal(due, Nets.output(net));
        });
        doc.says("; NONE if there is no such byte.", () -> {
            for (int index : new int[] {0, 1, -1, Integer.MIN_VALUE, Integer.MAX_VALUE}) {
                Check.equal(NONE, new ReliefNet().output(index));
            }
            ReliefNet net = events(24);
            net.write(23);
            for (int index : new int[] {12, 13, 63, 64, 65, -1, Integer.MIN_VALUE, Integer.MAX_VALUE}) {
                Check.equal(NONE, net.output(index));
            }
            net.write(0);
            Check.row(new int[] {net.output(10), net.output(11)}, 'n', NONE);
        });
    }

    /** A net with a text, an error and an output of its own, in which nothing is saved. */
    private static ReliefNet fresh() {
        ReliefNet net = Nets.row(3, 9, 100);
        net.send(0, 2, 0);
        net.run(1);
        net.write(0);
        Nets.load(net, "#");
        Nets.append(net, "life 7;");
        return net;
    }

    private static void save(Sentences doc) {
        doc.section("Promise 33");
        doc.plain("---- saved states");
        doc.says("Saves everything except the text buffer, the latest error, the output and the saved states.", () -> {
            // Nothing changes but the slot.
            Check.equal(Picture.ofSaved(Nets::full), Picture.ofSaved(() -> saved(Nets.full())));
            // Everything: after whatever changes a net, it is as before.
            Check.equal(Picture.ofSaved(Nets::history), Picture.ofSaved(() -> {
                ReliefNet net = saved(Nets.history());
                change(net);
                net.restore(1);
                return net;
            }));
            Check.equal(Picture.ofSaved(ReliefNet::new), Picture.ofSaved(() -> {
                ReliefNet net = saved(new ReliefNet());
                Nets.load(net, "station 0 23 1;station 0 23 1;link 0 1 0 23 100;message 0 1 0;life 5;tries 5;seed 5;");
                net.run(5);
                net.restore(1);
                return net;
            }));
            // Except the text, the error, the output and the other slot.
            ReliefNet net = saved(fresh());
            net.truncateText(0);
            Check.equal(NONE, Nets.load(net, "seed 5;seed x"));
            Nets.append(net, "seed 9;");
            net.write(1);
            net.run(1);
            net.save(0);
            net.restore(1);
            Check.row(new int[] {net.count(3), net.errorCode(), net.errorPosition()}, 1, 1, 12);
            Check.equal("0 m0 0>1 passed", Nets.output(net));
            Check.equal(7, Nets.textLength(net));
            Check.equal(1, net.load());
            Check.equal(9, net.count(6));
            net.restore(0);
            Check.equal(2, net.count(3));
        });
        doc.says("- `slot`: 0 or 1", () -> {
            for (int slot = 0; slot < 2; slot++) {
                ReliefNet net = Nets.row(2, 9, 100);
                net.save(slot);
                net.run(1);
                net.restore(slot);
                Check.equal(0, net.count(3));
                int other = 1 - slot;
                Check.refused(IllegalStateException.class, () -> net.restore(other));
            }
            Refused.argumentBeyond(LogSentences::fresh, 0, 1, ReliefNet::save);
        });
        doc.says("; a state that is already saved there is replaced", () -> {
            ReliefNet net = Nets.row(2, 9, 100);
            for (int time = 0; time < 4; time++) {
                net.save(time % 2);
                net.run(1);
            }
            net.restore(0);
            Check.equal(2, net.count(3));
            net.restore(1);
            Check.equal(3, net.count(3));
            // A small state leaves nothing of a large one.
            Check.equal(Picture.ofSaved(ReliefNet::new), Picture.ofSaved(() -> {
                ReliefNet large = saved(Nets.full());
                Nets.load(large, "");
                large.save(1);
                large.run(5);
                large.restore(1);
                return large;
            }));
        });
        doc.says("Throws `IllegalArgumentException` if slot is out of range", () ->
                Refused.argumentBeyond(Nets::history, 0, 1, ReliefNet::save));
    }

    private static ReliefNet saved(ReliefNet net) {
        net.save(1);
        return net;
    }

    /** Changes all that a net with history has. */
    private static void change(ReliefNet net) {
        net.addStation(1, 2, 3);
        net.addLink(5, 0, 0, 23, 9);
        net.setStation(0, 0, 7);
        net.setLink(0, 2, 1);
        net.setRules(9, 9, 9);
        net.send(5, 0, 1);
        net.setPriority(0, 3);
        net.takeBack(11);
        net.run(30);
    }

    private static void restore(Sentences doc) {
        doc.section("Promise 34");
        doc.says("Brings back a saved state, which stays saved.", () -> {
            String due = Picture.ofSaved(Nets::history);
            Check.equal(due, Picture.ofSaved(() -> {
                ReliefNet net = saved(Nets.history());
                for (int round = 0; round < 3; round++) {
                    change(net);
                    net.restore(1);
                }
                return net;
            }));
            // What happens after a restore does not change what is saved, nor does a load.
            Check.equal(due, Picture.ofSaved(() -> {
                ReliefNet net = saved(Nets.history());
                net.restore(1);
                change(net);
                net.truncateText(0);
                net.load();
                net.restore(1);
                return net;
            }));
        });
        doc.says("- `slot`: 0 or 1", () -> {
            ReliefNet net = Nets.row(2, 9, 100);
            net.save(0);
            net.run(1);
            net.save(1);
            net.restore(0);
            Check.equal(0, net.count(3));
            net.restore(1);
            Check.equal(1, net.count(3));
            Refused.argumentBeyond(() -> saved(Nets.history()), 0, 1, ReliefNet::restore);
        });
        doc.says("Throws `IllegalArgumentException` if slot is out of range", () -> {
            // Also where nothing is saved, since this exception comes first.
            Refused.argumentBeyond(ReliefNet::new, 0, 1, ReliefNet::restore);
            Refused.argumentBeyond(Nets::history, 0, 1, ReliefNet::restore);
        });
        doc.says("Throws `IllegalStateException` if nothing is saved there", () -> {
            Refused.state(LogSentences::fresh, net -> net.restore(0), net -> net.restore(1));
            Refused.state(Nets::history, net -> net.restore(1));
            Refused.state(() -> saved(fresh()), net -> net.restore(0));
            // A load brings no saved state, and takes none away.
            Refused.state(() -> Nets.loaded("station 0 0 1;"), net -> net.restore(0), net -> net.restore(1));
        });
    }
}
