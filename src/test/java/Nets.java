/** What many tests begin with. */
final class Nets {
    private Nets() {
    }

    /** Appends a text of any length; what is put too much to fill four bytes is cut again. */
    static void append(ReliefNet net, String text) {
        int length = 0;
        for (int at = 0; at < text.length(); at += 4) {
            int four = 0;
            for (int index = at; index < at + 4; index++) {
                four = four << 8 | (index < text.length() ? text.charAt(index) & 255 : 0);
            }
            length = net.appendText(four);
        }
        int over = (4 - text.length() % 4) % 4;
        if (over != 0) {
            net.truncateText(length - over);
        }
    }

    static int load(ReliefNet net, String text) {
        append(net, text);
        return net.load();
    }

    static ReliefNet loaded(String text) {
        ReliefNet net = new ReliefNet();
        if (load(net, text) == ReliefNet.NONE) {
            throw new AssertionError("error " + net.errorCode() + " at " + net.errorPosition() + " of " + text);
        }
        return net;
    }

    /** Stations 0, 1, .. that are always on the air, each with an always open link to the next one. */
    static ReliefNet row(int stations, int rate, int quality) {
        ReliefNet net = new ReliefNet();
        for (int station = 0; station < stations; station++) {
            net.addStation(0, 23, rate);
        }
        for (int station = 0; station + 1 < stations; station++) {
            net.addLink(station, station + 1, 0, 23, quality);
        }
        return net;
    }

    /** Eight stations, sixteen links from the lower four to the upper four, and twenty-four messages. */
    static ReliefNet full() {
        ReliefNet net = eightStations();
        for (int link = 0; link < 16; link++) {
            net.addLink(link / 4, 4 + link % 4, 0, 23, 100);
        }
        for (int message = 0; message < 24; message++) {
            net.send(message % 8, (message + 1 + message / 8) % 8, message % 4);
        }
        return net;
    }

    static ReliefNet eightStations() {
        ReliefNet net = new ReliefNet();
        for (int station = 0; station < 8; station++) {
            net.addStation(0, 23, 9);
        }
        return net;
    }

    /** A net in which much has happened: there are losses, ends, an error, a text, an output and a saved state. */
    static ReliefNet history() {
        ReliefNet net = new ReliefNet();
        int[][] stations = {{0, 20, 2}, {5, 3, 1}, {0, 23, 3}, {8, 22, 9}, {20, 16, 1}};
        for (int[] one : stations) {
            net.addStation(one[0], one[1], one[2]);
        }
        int[][] links = {{0, 1, 0, 23, 60}, {1, 2, 0, 23, 80}, {2, 3, 0, 23, 55}, {0, 4, 22, 9, 70}, {4, 3, 1, 13, 40},
            {0, 2, 12, 18, 90}};
        for (int[] one : links) {
            net.addLink(one[0], one[1], one[2], one[3], one[4]);
        }
        for (int message = 0; message < 11; message++) {
            net.send(message % 5, (message + 1 + message / 5) % 5, message * 7 % 4);
        }
        net.setRules(20, 2, 4711);
        net.run(7);
        net.takeBack(5);
        net.save(0);
        net.run(6);
        net.send(0, 3, 1);
        load(net, "life 3;x");
        net.write(3);
        append(net, "seed 7;");
        return net;
    }

    /** Stations in a row, one message from the first to the last, and draws that go as told for QUALITY 50. */
    static ReliefNet drawn(int stations, int tries, String draws) {
        ReliefNet net = row(stations, 9, 50);
        net.setRules(48, tries, Draws.around(50, draws));
        net.send(0, stations - 1, 0);
        return net;
    }

    static String output(ReliefNet net) {
        StringBuilder all = new StringBuilder();
        for (int sign = net.output(0); sign != ReliefNet.NONE && all.length() < 100; sign = net.output(all.length())) {
            all.append((char) sign);
        }
        return all.toString();
    }

    /** What a station would send now, each message with a space behind it. */
    static String sent(ReliefNet net, int station) {
        StringBuilder all = new StringBuilder();
        for (int index = 0; index < 20; index++) {
            int message = net.sends(station, index);
            if (message == ReliefNet.NONE) {
                break;
            }
            all.append(message).append(' ');
        }
        return all.toString();
    }

    /** The face tells the length only when the text changes; the change is taken back. */
    static int textLength(ReliefNet net) {
        for (int length = 700; length > 696; length--) {
            try {
                return net.truncateText(length);
            } catch (IllegalArgumentException tooLong) {
                continue;
            }
        }
        return net.truncateText(net.appendText(0x20202020) - 4);
    }

    static String written(ReliefNet net, int event) {
        int length = net.write(event);
        String line = output(net);
        Check.equal(line.length(), length);
        return line;
    }

    /** The whole log, a line each. */
    static String log(ReliefNet net) {
        StringBuilder all = new StringBuilder();
        for (int event = 0; event < net.count(13); event++) {
            all.append(event == 0 ? "" : "; ").append(written(net, event));
        }
        return all.toString();
    }

    static int[] station(ReliefNet net, int station) {
        int[] all = new int[10];
        for (int what = 0; what < all.length; what++) {
            all[what] = net.station(station, what);
        }
        return all;
    }

    static int[] link(ReliefNet net, int link) {
        int[] all = new int[9];
        for (int what = 0; what < all.length; what++) {
            all[what] = net.link(link, what);
        }
        return all;
    }

    static int[] counts(ReliefNet net) {
        int[] all = new int[14];
        for (int what = 0; what < all.length; what++) {
            all[what] = net.count(what);
        }
        return all;
    }

    static int[] message(ReliefNet net, int message) {
        int[] all = new int[12];
        for (int what = 0; what < all.length; what++) {
            all[what] = net.message(message, what);
        }
        return all;
    }

    static int[] copy(ReliefNet net, int message, int station) {
        int[] all = new int[5];
        for (int what = 0; what < all.length; what++) {
            all[what] = net.copy(message, station, what);
        }
        return all;
    }

    static int[] way(ReliefNet net, int from, int to, int time) {
        return new int[] {net.way(from, to, time, 0), net.way(from, to, time, 1), net.way(from, to, time, 2)};
    }

    static int[] event(ReliefNet net, int event) {
        int[] all = new int[5];
        for (int what = 0; what < all.length; what++) {
            all[what] = net.event(event, what);
        }
        return all;
    }
}
