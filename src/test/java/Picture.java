/** All that the face tells of a net, as one text; a picture changes nothing. */
final class Picture {
    private Picture() {
    }

    static String of(ReliefNet net) {
        StringBuilder all = new StringBuilder(ofSaved(net));
        all.append("\nerror ").append(net.errorCode()).append(' ').append(net.errorPosition());
        all.append("\noutput");
        for (int index = 0; net.output(index) != ReliefNet.NONE; index++) {
            all.append(' ').append(net.output(index));
        }
        all.append("\ntext ").append(textLength(net));
        return all.toString();
    }

    /** Only that part which save keeps. */
    static String ofSaved(ReliefNet net) {
        StringBuilder all = new StringBuilder("counts");
        for (int what = 0; what <= 13; what++) {
            all.append(' ').append(net.count(what));
        }
        for (int station = 0; station < net.count(0); station++) {
            all.append("\nstation ").append(station);
            for (int what = 0; what <= 9; what++) {
                all.append(' ').append(net.station(station, what));
            }
            for (int index = 0; net.sends(station, index) != ReliefNet.NONE; index++) {
                all.append(" sends ").append(net.sends(station, index));
            }
        }
        for (int link = 0; link < net.count(1); link++) {
            all.append("\nlink ").append(link);
            for (int what = 0; what <= 8; what++) {
                all.append(' ').append(net.link(link, what));
            }
        }
        for (int message = 0; message < net.count(2); message++) {
            addMessage(net, message, all);
        }
        for (int event = 0; event < net.count(13); event++) {
            all.append("\nevent");
            for (int what = 0; what <= 4; what++) {
                all.append(' ').append(net.event(event, what));
            }
        }
        all.append("\nrates ").append(net.meanHours()).append(' ').append(net.lossRate());
        all.append("\nways ").append(net.reachable()).append(' ').append(net.keyStation());
        return all.toString();
    }

    private static void addMessage(ReliefNet net, int message, StringBuilder all) {
        all.append("\nmessage ").append(message);
        for (int what = 0; what <= 11; what++) {
            all.append(' ').append(net.message(message, what));
        }
        for (int station = 0; station < net.count(0); station++) {
            all.append("\n  copy ").append(station);
            for (int what = 0; what <= 4; what++) {
                all.append(' ').append(net.copy(message, station, what));
            }
            for (int index = 0; index < net.copy(message, station, 3); index++) {
                all.append(" by ").append(net.path(message, station, index));
            }
        }
    }

    /** The face tells the length only together with a change, which is taken back here. */
    private static int textLength(ReliefNet net) {
        for (int length = 700; length >= 0; length--) {
            try {
                return net.truncateText(length);
            } catch (IllegalArgumentException tooLong) {
                continue;
            }
        }
        throw new AssertionError("no length fits");
    }
}
