/** What many tests begin with. */
final class Nets {
    private Nets() {
    }

    /** Appends a text of any length; what is put too much to fill four bytes is cut again. */
    static void append(ReliefNet net, String text) {
        int length = 0;
        for (int at = 0; at < text.length(); at += 4) {
            int four = 0;
            for (int index = at; index < at + 4; index++) {
                four = four << 8 | (index < text.length() ? text.charAt(index) & 255 : 0);
            }
            length = net.appendText(four);
        }
        int over = (4 - text.length() % 4) % 4;
        if (over != 0) {
            net.truncateText(length - over);
        }
    }

    static int load(ReliefNet net, String text) {
        append(net, text);
        return net.load();
    }

    static ReliefNet loaded(String text) {
        ReliefNet net = new ReliefNet();
        if (load(net, text) == ReliefNet.NONE) {
            throw new AssertionError("error " + net.errorCode() + " at " + net.errorPosition() + " of " + text);
        }
        return net;
    }

    /** Stations 0, 1, .. that are always on the air, each with an always open link to the next one. */
    static ReliefNet row(int stations, int rate, int quality) {
        ReliefNet net = new ReliefNet();
        for (int station = 0; station < stations; station++) {
            net.addStation(0, 23, rate);
        }
        for (int station = 0; station + 1 < stations; station++) {
            net.addLink(station, station + 1, 0, 23, quality);
        }
        return net;
    }

    static String output(ReliefNet net) {
        StringBuilder all = new StringBuilder();
        for (int index = 0; net.output(index) != ReliefNet.NONE; index++) {
            all.append((char) net.output(index));
        }
        return all.toString();
    }

    static String written(ReliefNet net, int event) {
        int length = net.write(event);
        String line = output(net);
        Check.equal(line.length(), length);
        return line;
    }

    /** The whole log, a line each. */
    static String log(ReliefNet net) {
        StringBuilder all = new StringBuilder();
        for (int event = 0; event < net.count(13); event++) {
            all.append(event == 0 ? "" : "; ").append(written(net, event));
        }
        return all.toString();
    }

    static int[] station(ReliefNet net, int station) {
        int[] all = new int[10];
        for (int what = 0; what < all.length; what++) {
            all[what] = net.station(station, what);
        }
        return all;
    }

    static int[] link(ReliefNet net, int link) {
        int[] all = new int[9];
        for (int what = 0; what < all.length; what++) {
            all[what] = net.link(link, what);
        }
        return all;
    }

    static int[] counts(ReliefNet net) {
        int[] all = new int[14];
        for (int what = 0; what < all.length; what++) {
            all[what] = net.count(what);
        }
        return all;
    }

    static int[] message(ReliefNet net, int message) {
        int[] all = new int[12];
        for (int what = 0; what < all.length; what++) {
            all[what] = net.message(message, what);
        }
        return all;
    }

    static int[] copy(ReliefNet net, int message, int station) {
        int[] all = new int[5];
        for (int what = 0; what < all.length; what++) {
            all[what] = net.copy(message, station, what);
        }
        return all;
    }

    static int[] way(ReliefNet net, int from, int to, int time) {
        return new int[] {net.way(from, to, time, 0), net.way(from, to, time, 1), net.way(from, to, time, 2)};
    }

    static int[] event(ReliefNet net, int event) {
        int[] all = new int[5];
        for (int what = 0; what < all.length; what++) {
            all[what] = net.event(event, what);
        }
        return all;
    }
}
