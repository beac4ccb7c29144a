/** What the document says of draws and of an hour, and of the promises 25 to 29. */
final class HourSentences {
    private static final int NONE = ReliefNet.NONE;

    private HourSentences() {
    }

    static void run(Sentences doc) {
        draws(doc);
        expiry(doc);
        turns(doc);
        frames(doc);
        acknowledgements(doc);
        ends(doc);
        hours(doc);
        stateAfter(doc);
        hoursTo(doc);
        means(doc);
    }

    /** One frame from 0 to 1, with this x before it; a message that is lost takes one draw. */
    private static ReliefNet frame(int quality, int x) {
        ReliefNet net = Nets.row(2, 1, quality);
        net.setRules(48, 3, x);
        net.send(0, 1, 0);
        net.run(1);
        return net;
    }

    private static void draws(Sentences doc) {
        doc.section("DRAWS");
        doc.says("There is a number x (0 to 1000002, 1 at first).", () -> {
            Check.equal(1, new ReliefNet().count(6));
            for (int x : new int[] {0, 1, 1000001, 1000002}) {
                Check.equal(Draws.next(x), frame(0, x).count(6));
            }
            Refused.argument(ReliefNet::new, net -> net.setRules(48, 3, -1), net -> net.setRules(48, 3, 1000003));
        });
        doc.says("A draw replaces x by (1103 * x + 12345) modulo 1000003", () -> {
            Check.equal(12345, frame(0, 0).count(6));
            Check.equal(13448, frame(0, 1).count(6));
            Check.equal(11242, frame(0, 1000002).count(6));
            // The x before which the new one begins anew, at its least and at its greatest.
            Check.equal(0, frame(0, before(0)).count(6));
            Check.equal(1000002, frame(0, before(1000002)).count(6));
            Check.equal(999530, frame(0, 895).count(6));
            Check.equal(630, frame(0, 896).count(6));
        });
        doc.says(", and is then x modulo 100.", () -> {
            // A new x of 0 draws 0, one of 1000002 draws 2, one of 999999 draws 99.
            Check.equal(0, frame(1, before(0)).link(0, 7));
            Check.equal(1, frame(0, before(0)).link(0, 7));
            Check.equal(0, frame(3, before(1000002)).link(0, 7));
            Check.equal(1, frame(2, before(1000002)).link(0, 7));
            Check.equal(0, frame(100, before(999999)).link(0, 7));
            Check.equal(1, frame(99, before(999999)).link(0, 7));
            Check.equal(0, frame(1, before(100)).link(0, 7));
        });
    }

    /** The x whose next one is this. */
    private static int before(int next) {
        for (int x = 0; x <= 1000002; x++) {
            if (Draws.next(x) == next) {
                return x;
            }
        }
        throw new AssertionError("no x comes before " + next);
    }

    private static void expiry(Sentences doc) {
        doc.section("AN HOUR");
        doc.plain("The hour that begins at the present time passes in these steps:");
        doc.says("1. Copies that wait expire if the time minus the time at which their message was born is LIFE or "
                + "more",
                () -> {
            for (int life : new int[] {1, 2, 48, 200}) {
                ReliefNet net = Nets.row(2, 9, 100);
                net.setStation(0, 1, 11);
                net.setStation(1, 0, 12);
                net.setRules(life, 9, 1);
                net.run(30);
                net.send(0, 1, 0);
                for (int passed = 0; passed < life; passed += Math.min(72, life - passed)) {
                    net.run(Math.min(72, life - passed));
                }
                Check.row(new int[] {net.count(3), net.copy(0, 0, 0)}, 30 + life, 1);
                net.run(1);
                Check.row(new int[] {net.count(3), net.copy(0, 0, 0)}, 31 + life, 4);
            }
            // More than LIFE, since that was lowered.
            ReliefNet late = Nets.row(2, 9, 0);
            late.setRules(200, 9, 1);
            late.send(0, 1, 0);
            late.run(5);
            late.setRules(3, 9, 1);
            late.run(1);
            Check.row(new int[] {late.copy(0, 0, 0), late.message(0, 7)}, 4, 5);
            // Copies that do not wait do not expire, those of a delivered message that wait do.
            ReliefNet delivered = Nets.drawn(2, 9, "+-");
            delivered.setRules(1, 9, delivered.count(6));
            delivered.run(2);
            Check.row(new int[] {delivered.copy(0, 0, 0), delivered.copy(0, 1, 0)}, 4, 5);
        });
        doc.says("(by ascending messages, then by ascending stations).", () -> {
            // Messages 0 and 1 wait at both 0 and 1.
            ReliefNet net = Nets.row(3, 9, 50);
            net.setRules(1, 9, Draws.around(50, "+-+-"));
            net.send(0, 2, 0);
            net.send(0, 2, 3);
            net.run(2);
            Check.equal(8, net.count(13));
            String[] due = {"1 m0 0 expired", "1 m0 1 expired", "1 m1 0 expired", "1 m1 1 expired"};
            for (int event = 0; event < 4; event++) {
                Check.row(Nets.event(net, 4 + event), 1, 7, event / 2, event % 2, NONE);
                Check.equal(due[event], Nets.written(net, 4 + event));
            }
        });
    }

    private static void turns(Sentences doc) {
        doc.says("2. The stations that are on the air send, by ascending numbers.", () -> {
            ReliefNet net = Nets.eightStations();
            for (int station = 1; station < 8; station++) {
                net.addLink(0, station, 0, 23, 100);
            }
            for (int station = 7; station > 0; station--) {
                net.send(station, 0, 0);
            }
            net.setStation(4, 0, 1);
            net.run(1);
            // Seven births, then two events for each frame; 4 is not on the air.
            int event = 7;
            for (int station : new int[] {1, 2, 3, 5, 6, 7}) {
                Check.row(Nets.event(net, event), 0, 5, 7 - station, 0, station);
                event += 2;
            }
            Check.equal(event, net.count(13));
        });
        doc.says("A station looks at its copies that wait, are there by now (not those that it got in this "
                + "hour)", () -> {
            // 0 sends before 1 does; 1 does not send on what it has just got.
            ReliefNet net = Nets.row(8, 9, 100);
            net.send(0, 7, 0);
            for (int hour = 1; hour <= 7; hour++) {
                Check.equal(hour == 7 ? 1 : 0, net.run(1));
                Check.row(new int[] {net.count(11), net.copy(0, hour, 2)}, hour, hour);
            }
        });
        doc.says(", and have a NEXT station", () -> {
            // A copy without a NEXT station takes no place of RATE 1.
            ReliefNet net = Nets.row(3, 1, 100);
            net.setLink(1, 0, 12);
            net.setStation(1, 2, 1);
            net.send(1, 2, 3);
            net.send(1, 0, 0);
            Check.equal("1 ", Nets.sent(net, 1));
            Check.equal(1, net.run(1));
            Check.row(new int[] {net.message(0, 7), net.message(1, 7)}, 0, 1);
        });
        doc.says("; they are ordered by descending priorities, then by ascending messages.", () -> {
            ReliefNet net = Nets.row(2, 9, 100);
            for (int priority : new int[] {0, 3, 1, 2, 3, 0, 2, 1}) {
                net.send(0, 1, priority);
            }
            Check.equal("1 4 3 6 2 7 0 5 ", Nets.sent(net, 0));
            net.run(1);
            int event = 8;
            for (int message : new int[] {1, 4, 3, 6, 2, 7, 0, 5}) {
                Check.row(Nets.event(net, event), 0, 5, message, 1, 0);
                event += 2;
            }
        });
        doc.says("The first RATE of them are sent, one after the other, each once to its NEXT station, by the link l "
                + "between both:", () -> {
            for (int rate : new int[] {1, 3, 4, 9}) {
                // One less than RATE, as many, and one more; all are lost, and none is sent twice in an hour.
                for (int many : new int[] {0, 1, rate - 1, rate, rate + 1}) {
                    ReliefNet net = Nets.row(2, rate, 0);
                    for (int message = 0; message < many; message++) {
                        net.send(0, 1, 0);
                    }
                    net.run(1);
                    Check.equal(Math.min(rate, many), net.count(11));
                    Check.equal(Math.min(rate, many), net.link(0, 6));
                    for (int message = 0; message < many; message++) {
                        Check.equal(message < rate ? 1 : 0, net.message(message, 7));
                    }
                }
            }
        });
    }

    private static void frames(Sentences doc) {
        doc.says("a frame is drawn: if the draw is not less than the QUALITY of l, the frame is lost.", () -> {
            for (int quality : new int[] {1, 50, 99}) {
                ReliefNet net = frame(quality, Draws.exactly(quality));
                Check.row(new int[] {net.link(0, 6), net.link(0, 7), net.link(0, 8)}, 1, 1, 0);
                Check.row(new int[] {net.copy(0, 0, 0), net.copy(0, 0, 1), net.copy(0, 1, 0)}, 1, 1, 0);
                Check.equal(0, net.station(1, 6));
                // Nothing but the frame was drawn.
                Check.equal(Draws.next(Draws.exactly(quality)), net.count(6));
            }
        });
        doc.says("Otherwise the NEXT station gets it.", () -> {
            for (int quality : new int[] {1, 50, 99, 100}) {
                ReliefNet net = frame(quality, Draws.exactly(quality - 1));
                Check.row(new int[] {net.link(0, 7), net.station(1, 6), net.copy(0, 1, 0)}, 0, 1, 5);
            }
        });
        doc.says("If it has a copy of the message already (of any state but 0), it is a duplicate, and nothing else "
                + "happens there.", HourSentences::duplicates);
        doc.says("If not, the station has a copy now, with the path of the copy that was sent and the station itself; "
                + "it is delivered if the message goes to this station, and waits otherwise;", () -> {
            ReliefNet net = Nets.row(3, 9, 100);
            net.send(0, 2, 0);
            net.run(1);
            Check.row(Nets.copy(net, 0, 1), 1, 0, 1, 2, 2);
            Check.row(new int[] {net.path(0, 1, 0), net.path(0, 1, 1)}, 0, 1);
            net.run(1);
            Check.row(Nets.copy(net, 0, 2), 5, 0, 2, 3, NONE);
            Check.row(new int[] {net.path(0, 2, 0), net.path(0, 2, 1), net.path(0, 2, 2)}, 0, 1, 2);
        });
        doc.says("it is there from the end of this hour on (the time plus 1).", () -> {
            ReliefNet net = Nets.row(3, 9, 100);
            net.run(47);
            net.send(0, 2, 0);
            net.run(1);
            Check.row(new int[] {net.copy(0, 1, 2), net.count(3)}, 48, 48);
            net.run(1);
            Check.row(new int[] {net.copy(0, 2, 2), net.message(0, 5), net.count(3)}, 49, 49, 49);
        });
    }

    /** The second station's copy waits, was passed on, was stopped or is delivered, and the frame comes again. */
    private static void duplicates() {
        // An expired copy can't be met: where one of a message expires, all of it that wait do.
        for (int state : new int[] {1, 2, 3, 5}) {
            ReliefNet net = Nets.row(state == 5 ? 2 : 3, 9, 50);
            net.setRules(48, 9, Draws.around(50, "+-"));
            net.send(0, state == 5 ? 1 : 2, 0);
            net.run(1);
            if (state != 5) {
                net.setLink(1, 0, state == 1 ? 20 : 0);
                net.setLink(1, 2, state == 2 ? 100 : 0);
            }
            // 0 is not heard in the second hour, in which 1 sends.
            net.setLink(0, 0, 2);
            net.setRules(48, state == 3 ? 1 : 9, 1);
            net.run(1);
            Check.row(new int[] {net.copy(0, 0, 0), net.copy(0, 1, 0)}, 1, state);
            net.setRules(48, 9, Draws.around(50, "++"));
            if (state != 5) {
                net.setLink(1, 0, 20);
            }
            int[] before = Nets.copy(net, 0, 1);
            int events = net.count(13);
            net.run(1);
            Check.row(Nets.copy(net, 0, 1), before);
            Check.row(new int[] {net.station(1, 7), net.message(0, 8), net.count(12), net.station(1, 6)}, 1, 1, 1, 2);
            Check.row(Nets.event(net, events), 2, 4, 0, 1, 0);
            Check.row(Nets.event(net, events + 1), 2, 1, 0, 0, 1);
            Check.equal(events + 2, net.count(13));
            Check.equal(state == 5 ? 1 : 0, net.station(1, 8));
        }
    }

    private static void acknowledgements(Sentences doc) {
        doc.says("Then, in both cases, an acknowledgement is drawn: if the draw is less than the QUALITY of l, the "
                + "copy that was sent is passed on.", () -> {
            for (int quality : new int[] {1, 50, 99, 100}) {
                ReliefNet net = frame(quality, Draws.exactly(quality - 1, quality - 1));
                Check.row(new int[] {net.copy(0, 0, 0), net.copy(0, 0, 1), net.link(0, 8)}, 2, 0, 0);
                Check.equal(Draws.after(Draws.exactly(quality - 1, quality - 1), 2), net.count(6));
            }
            // For a duplicate too.
            ReliefNet twice = Nets.drawn(2, 9, "+-++");
            int x = twice.count(6);
            twice.run(2);
            Check.row(new int[] {twice.count(12), twice.copy(0, 0, 0), twice.copy(0, 0, 1)}, 1, 2, 1);
            Check.equal(Draws.after(x, 4), twice.count(6));
        });
        doc.says("Otherwise the acknowledgement is lost.", () -> {
            for (int quality : new int[] {1, 50, 99}) {
                ReliefNet net = frame(quality, Draws.exactly(quality - 1, quality));
                Check.row(new int[] {net.copy(0, 0, 0), net.copy(0, 0, 1), net.copy(0, 1, 0)}, 1, 1, 5);
                Check.row(new int[] {net.link(0, 6), net.link(0, 7), net.link(0, 8)}, 1, 0, 1);
            }
        });
        doc.says("If the frame or the acknowledgement is lost, the copy that was sent has 1 try more", () -> {
            ReliefNet net = Nets.drawn(2, 9, "-+---+-++");
            for (int tries : new int[] {0, 1, 2, 3, 4, 5, 5}) {
                Check.equal(tries, net.copy(0, 0, 1));
                net.run(1);
            }
            Check.row(Nets.copy(net, 0, 1), 5, 0, 2, 2, NONE);
        });
        doc.says("; with TRIES tries it is stopped.", () -> {
            for (int tries = 1; tries <= 9; tries++) {
                ReliefNet net = Nets.row(2, 9, 0);
                net.setRules(48, tries, 1);
                net.send(0, 1, 0);
                if (tries > 1) {
                    net.run(tries - 1);
                }
                Check.row(new int[] {net.copy(0, 0, 0), net.copy(0, 0, 1)}, 1, tries - 1);
                net.run(1);
                Check.row(new int[] {net.copy(0, 0, 0), net.copy(0, 0, 1)}, 3, tries);
                net.run(5);
                Check.row(new int[] {net.count(11), net.message(0, 4)}, tries, 2);
            }
            // By a lost acknowledgement likewise.
            ReliefNet unsure = Nets.drawn(2, 2, "-+-");
            unsure.run(2);
            Check.row(new int[] {unsure.copy(0, 0, 0), unsure.copy(0, 0, 1), unsure.message(0, 4)}, 3, 2, 1);
        });
        doc.says("3. The time grows by 1.", () -> {
            ReliefNet net = Nets.full();
            for (int time = 1; time <= 30; time++) {
                net.run(1);
                Check.equal(time, net.count(3));
            }
        });
    }

    private static void ends(Sentences doc) {
        doc.says("When a copy expires, is stopped, or is taken back, the end of its message is noted: the station of "
                + "the copy, and the station to which it was sent at last", () -> {
            ReliefNet net = Nets.drawn(3, 1, "+--");
            Check.row(end(net), NONE, NONE);
            net.run(1);
            Check.row(end(net), 0, 1);
            net.run(1);
            Check.row(end(net), 1, 2);
        });
        doc.says("(NONE if it expired or was taken back)", () -> {
            // Also if it was sent before.
            ReliefNet old = Nets.row(2, 9, 0);
            old.setRules(2, 9, 1);
            old.send(1, 0, 0);
            old.run(3);
            Check.row(end(old), 1, NONE);
            ReliefNet back = Nets.row(2, 9, 0);
            back.send(1, 0, 0);
            back.run(1);
            back.takeBack(0);
            Check.row(end(back), 1, NONE);
        });
        doc.says("; a later end replaces an earlier one.", () -> {
            // Both copies expire in one hour, and both are taken back in one call: the last station counts.
            ReliefNet old = Nets.drawn(3, 9, "+-");
            old.setRules(1, 9, old.count(6));
            old.run(2);
            Check.row(end(old), 1, NONE);
            ReliefNet back = Nets.drawn(3, 9, "+-");
            back.run(1);
            back.takeBack(0);
            Check.row(end(back), 1, NONE);
            // A stop behind a stop, and an end behind the delivery.
            ReliefNet stopped = Nets.drawn(3, 1, "+-");
            stopped.run(1);
            stopped.takeBack(0);
            Check.row(end(stopped), 1, NONE);
            ReliefNet delivered = Nets.drawn(2, 2, "+-");
            delivered.run(1);
            Check.row(end(delivered), NONE, NONE);
            delivered.setLink(0, 2, 0);
            delivered.run(1);
            Check.row(end(delivered), 0, 1);
        });
        doc.says("LIFE is 1 to 200 (48 at first)", () -> {
            Check.equal(48, new ReliefNet().count(4));
            Refused.range(ReliefNet::new, 1, 200, (net, life) -> net.setRules(life, 3, 1), net -> net.count(4));
            ReliefNet net = Nets.row(2, 9, 0);
            net.setLink(0, 0, 5);
            net.setStation(0, 1, 4);
            net.send(0, 1, 0);
            net.run(48);
            Check.equal(1, net.copy(0, 0, 0));
            net.run(1);
            Check.equal(4, net.copy(0, 0, 0));
        });
        doc.says(", TRIES is 1 to 9 (3 at first).", () -> {
            Check.equal(3, new ReliefNet().count(5));
            Refused.range(ReliefNet::new, 1, 9, (net, tries) -> net.setRules(48, tries, 1), net -> net.count(5));
            ReliefNet net = Nets.row(2, 9, 0);
            net.send(0, 1, 0);
            net.run(2);
            Check.equal(1, net.copy(0, 0, 0));
            net.run(1);
            Check.equal(3, net.copy(0, 0, 0));
        });
    }

    private static int[] end(ReliefNet net) {
        return new int[] {net.message(0, 10), net.message(0, 11)};
    }

    private static void hours(Sentences doc) {
        doc.section("Promise 25");
        doc.plain("---- time");
        doc.says("Lets hours pass.", () -> {
            // Many hours are the same as one by one.
            Check.equal(Picture.of(() -> {
                ReliefNet net = Nets.history();
                net.run(40);
                return net;
            }), Picture.of(() -> {
                ReliefNet net = Nets.history();
                for (int hour = 0; hour < 40; hour++) {
                    net.run(1);
                }
                return net;
            }));
        });
        doc.says("- `hours`: 1 to 72", () -> {
            for (int hours : new int[] {1, 72}) {
                ReliefNet net = Nets.history();
                int time = net.count(3);
                net.run(hours);
                Check.equal(time + hours, net.count(3));
            }
            Refused.argumentBeyond(ReliefNet::new, 1, 72, ReliefNet::run);
        });
        doc.says("Returns the number of messages that were delivered in these hours.", () -> {
            Check.equal(0, new ReliefNet().run(72));
            ReliefNet net = Nets.row(2, 9, 100);
            for (int message = 0; message < 24; message++) {
                net.send(0, 1, 0);
            }
            Check.equal(9, net.run(1));
            Check.equal(15, net.run(2));
            Check.equal(0, net.run(72));
            ReliefNet all = Nets.full();
            Check.equal(24, all.run(72));
            // A duplicate is not delivered again.
            ReliefNet twice = Nets.drawn(2, 9, "+-+-++");
            Check.equal(1, twice.run(1));
            Check.equal(0, twice.run(2));
        });
        doc.says("Throws `IllegalArgumentException` if hours is out of range", () ->
                Refused.argumentBeyond(Nets::history, 1, 72, ReliefNet::run));
    }

    private static void stateAfter(Sentences doc) {
        doc.section("Promise 26");
        doc.says("Predicts a message, if only time passes (with the draws that would come); nothing changes.", () -> {
            Check.equal(Picture.of(Nets::history), Picture.of(() -> {
                ReliefNet net = Nets.history();
                for (int message = 0; message < 12; message++) {
                    net.stateAfter(message, 6 * message + 1);
                }
                return net;
            }));
            for (int message = 0; message < 12; message++) {
                for (int hours = 1; hours <= 72; hours++) {
                    ReliefNet net = Nets.history();
                    int predicted = net.stateAfter(message, hours);
                    net.run(hours);
                    Check.equal(net.message(message, 4), predicted);
                }
            }
        });
        doc.says("- `message`: a message", () -> {
            Check.equal(1, Nets.full().stateAfter(0, 72));
            Check.equal(1, Nets.full().stateAfter(23, 72));
            Refused.indexBeyond(Nets::full, 0, 23, (net, message) -> net.stateAfter(message, 1));
            Refused.indexBeyond(Nets::history, 0, 11, (net, message) -> net.stateAfter(message, 1));
        });
        doc.says("- `hours`: 1 to 72", () -> {
            ReliefNet net = daily(3);
            Check.row(new int[] {net.stateAfter(2, 71), net.stateAfter(2, 72)}, 0, 1);
            net.setLink(0, 0, 0);
            Check.row(new int[] {net.stateAfter(0, 1), net.stateAfter(1, 1)}, 1, 0);
            Refused.argumentBeyond(Nets::full, 1, 72, (any, hours) -> any.stateAfter(0, hours));
        });
        doc.says("Returns what message(message, 4) tells then.", () -> {
            ReliefNet net = Nets.row(3, 9, 100);
            net.setRules(5, 1, 1);
            net.send(0, 2, 0);
            Check.row(new int[] {net.stateAfter(0, 1), net.stateAfter(0, 2), net.stateAfter(0, 72)}, 0, 1, 1);
            net.setLink(1, 2, 0);
            Check.row(new int[] {net.stateAfter(0, 1), net.stateAfter(0, 2)}, 0, 2);
            net.setStation(2, 0, 20);
            Check.row(new int[] {net.stateAfter(0, 5), net.stateAfter(0, 6)}, 0, 2);
            net.takeBack(0);
            Check.equal(2, net.stateAfter(0, 1));
        });
        doc.says("Throws `IndexOutOfBoundsException` if there is no such message", () -> {
            Refused.index(ReliefNet::new, net -> net.stateAfter(0, 1));
            Refused.index(Nets::eightStations, net -> net.stateAfter(0, 1));
            Refused.indexBeyond(Nets::full, 0, 23, (net, message) -> net.stateAfter(message, 1));
            Refused.index(Nets::full, net -> net.stateAfter(24, 0), net -> net.stateAfter(-1, 73));
        });
        doc.says("Throws `IllegalArgumentException` if hours is out of range", () ->
                Refused.argumentBeyond(Nets::history, 1, 72, (net, hours) -> net.stateAfter(0, hours)));
    }

    /** So many messages of which one is delivered a day, in the hour that begins at 23 o'clock. */
    private static ReliefNet daily(int messages) {
        ReliefNet net = Nets.row(2, 1, 100);
        net.setRules(200, 9, 1);
        net.setLink(0, 0, 23);
        for (int message = 0; message < messages; message++) {
            net.send(0, 1, 0);
        }
        return net;
    }

    private static void hoursTo(Sentences doc) {
        doc.section("Promise 27");
        doc.says("Predicts after how many hours so many messages in all are delivered, if only time passes (with the "
                + "draws that would come); nothing changes.", () -> {
            Check.equal(Picture.of(Nets::history), Picture.of(() -> {
                ReliefNet net = Nets.history();
                for (int many = 1; many <= 24; many++) {
                    net.hoursTo(many);
                }
                return net;
            }));
            for (int many = 1; many <= 24; many++) {
                ReliefNet net = Nets.history();
                int predicted = net.hoursTo(many);
                int hours = 0;
                while (net.count(8) < many && hours < 72) {
                    net.run(1);
                    hours++;
                }
                Check.equal(net.count(8) < many ? NONE : hours, predicted);
            }
        });
        doc.says("- `many`: 1 to 24", () -> {
            ReliefNet net = Nets.row(2, 9, 100);
            for (int message = 0; message < 24; message++) {
                net.send(0, 1, 0);
            }
            int[] due = {1, 9, 10, 18, 19, 24};
            for (int many : due) {
                Check.equal((many + 8) / 9, net.hoursTo(many));
            }
            Refused.argumentBeyond(Nets::full, 1, 24, ReliefNet::hoursTo);
        });
        doc.says("Returns the least number of hours, 0 to 72", () -> {
            // All that are delivered count, those before too.
            ReliefNet net = daily(3);
            Check.row(new int[] {net.hoursTo(1), net.hoursTo(2), net.hoursTo(3)}, 24, 48, 72);
            net.run(24);
            Check.row(new int[] {net.hoursTo(1), net.hoursTo(2), net.hoursTo(3)}, 0, 24, 48);
            net.run(48);
            Check.row(new int[] {net.hoursTo(1), net.hoursTo(2), net.hoursTo(3)}, 0, 0, 0);
        });
        doc.says("; NONE if it takes more.", () -> {
            ReliefNet net = daily(4);
            int[] hours = {net.hoursTo(3), net.hoursTo(4), net.hoursTo(5), net.hoursTo(24)};
            Check.row(hours, 72, NONE, NONE, NONE);
            net.setLink(0, 0, 0);
            net.setLink(0, 1, 0);
            // Now in the hours 0, 24, 48 and 72: the last is the 73rd.
            Check.row(new int[] {net.hoursTo(3), net.hoursTo(4)}, 49, NONE);
            Check.equal(NONE, new ReliefNet().hoursTo(1));
            Check.equal(NONE, Nets.row(2, 1, 100).hoursTo(1));
        });
        doc.says("Throws `IllegalArgumentException` if many is out of range", () ->
                Refused.argumentBeyond(Nets::history, 1, 24, ReliefNet::hoursTo));
    }

    private static void means(Sentences doc) {
        doc.section("Promise 28");
        doc.says("Returns the mean number of hours from the birth to the delivery of delivered messages: the sum of "
                + "(the time from which on it is delivered, minus the time at which it was born) divided by their "
                + "number, both converted to double", () -> {
            ReliefNet net = Nets.row(4, 9, 100);
            net.run(5);
            net.send(0, 1, 0);
            net.send(3, 0, 0);
            net.send(3, 2, 0);
            net.send(0, 3, 0);
            net.takeBack(3);
            net.run(1);
            Check.equal(1.0, net.meanHours());
            net.run(2);
            Check.equal(5.0 / 3.0, net.meanHours());
            ReliefNet slow = Nets.row(2, 1, 100);
            slow.setRules(200, 9, 1);
            for (int message = 0; message < 24; message++) {
                slow.send(0, 1, 0);
            }
            slow.run(24);
            Check.equal(300.0 / 24.0, slow.meanHours());
        });
        doc.says("; -1.0 without any.", () -> {
            Check.equal(-1.0, new ReliefNet().meanHours());
            ReliefNet net = Nets.row(2, 9, 0);
            Check.equal(-1.0, net.meanHours());
            net.send(0, 1, 0);
            Check.equal(-1.0, net.meanHours());
            net.run(72);
            Check.equal(-1.0, net.meanHours());
        });
        doc.section("Promise 29");
        doc.says("Returns the part of frames that were lost, or whose acknowledgements were lost: their number "
                + "divided by the number of frames that were sent, both converted to float", () -> {
            ReliefNet net = Nets.drawn(2, 9, "-+-+++");
            float[] due = {0f, 1f, 1f, 2f / 3f, 2f / 3f};
            for (float part : due) {
                Check.equal(part, net.lossRate());
                net.run(1);
            }
            ReliefNet third = Nets.drawn(2, 9, "--+-++");
            third.run(4);
            Check.equal(3f / 4f, third.lossRate());
            ReliefNet lost = Nets.row(2, 9, 0);
            lost.send(0, 1, 0);
            lost.run(3);
            Check.equal(1f, lost.lossRate());
        });
        doc.says("; 0 without frames.", () -> {
            Check.equal(0f, new ReliefNet().lossRate());
            ReliefNet net = Nets.row(2, 9, 0);
            net.setLink(0, 0, 5);
            net.send(0, 1, 0);
            net.run(2);
            Check.equal(0f, net.lossRate());
            // None lost is 0 too.
            ReliefNet good = Nets.row(2, 9, 100);
            good.send(0, 1, 0);
            good.run(1);
            Check.equal(0f, good.lossRate());
        });
    }
}
