import java.util.ArrayList;
import java.util.List;

/**
 * All that the face tells of a net, as one text. The document promises nothing behind the 512th call, so each page
 * of a picture is made of a net of its own, which a maker builds anew: always by the same calls, some 100 at most.
 */
final class Picture {
    interface Maker {
        ReliefNet make() throws Exception;
    }

    private interface Page {
        void add(ReliefNet net, StringBuilder all) throws Exception;
    }

    /** So few that a page of copies with the longest paths takes no more than some 330 calls. */
    private static final int MESSAGES_A_PAGE = 3;

    private Picture() {
    }

    static String of(Maker maker) throws Exception {
        List<Page> pages = savedPages();
        pages.add(Picture::addOutput);
        pages.add(Picture::addText);
        pages.add(Picture::addLongerText);
        pages.add((net, all) -> addSlot(net, 0, all));
        pages.add((net, all) -> addSlot(net, 1, all));
        return print(maker, pages);
    }

    /** Only that part which save keeps. */
    static String ofSaved(Maker maker) throws Exception {
        return print(maker, savedPages());
    }

    private static List<Page> savedPages() {
        List<Page> pages = new ArrayList<>();
        pages.add(Picture::addCounts);
        pages.add(Picture::addStations);
        pages.add(Picture::addLinks);
        pages.add(Picture::addWays);
        pages.add(Picture::addMessages);
        for (int first = 0; first < 24; first += MESSAGES_A_PAGE) {
            int from = first;
            pages.add((net, all) -> addCopies(net, from, all));
        }
        pages.add(Picture::addEvents);
        pages.add(Picture::addDayAfter);
        return pages;
    }

    private static String print(Maker maker, List<Page> pages) throws Exception {
        StringBuilder all = new StringBuilder();
        for (Page page : pages) {
            page.add(maker.make(), all);
        }
        return all.toString();
    }

    private static void addCounts(ReliefNet net, StringBuilder all) {
        all.append("\ncounts ").append(java.util.Arrays.toString(Nets.counts(net)));
        all.append("\nrates ").append(net.meanHours()).append(' ').append(net.lossRate());
        all.append("\nways ").append(net.reachable()).append(' ').append(net.keyStation());
    }

    private static void addStations(ReliefNet net, StringBuilder all) {
        for (int station = 0; station < net.count(0); station++) {
            all.append("\nstation ").append(java.util.Arrays.toString(Nets.station(net, station)));
            all.append(" sends ").append(Nets.sent(net, station));
        }
    }

    private static void addLinks(ReliefNet net, StringBuilder all) {
        for (int link = 0; link < net.count(1); link++) {
            all.append("\nlink ").append(java.util.Arrays.toString(Nets.link(net, link)));
        }
    }

    /** All ways, every other one from half a day later on. */
    private static void addWays(ReliefNet net, StringBuilder all) {
        int stations = net.count(0);
        int time = net.count(3);
        for (int pair = 0; pair < stations * stations; pair++) {
            int from = pair / stations;
            int to = pair % stations;
            if (from != to) {
                int[] way = Nets.way(net, from, to, time + pair % 2 * 12);
                all.append("\nway ").append(from).append(' ').append(to).append(' ');
                all.append(java.util.Arrays.toString(way));
            }
        }
    }

    private static void addMessages(ReliefNet net, StringBuilder all) {
        for (int message = 0; message < net.count(2); message++) {
            all.append("\nmessage ").append(java.util.Arrays.toString(Nets.message(net, message)));
        }
    }

    private static void addCopies(ReliefNet net, int first, StringBuilder all) {
        int stations = net.count(0);
        int end = Math.min(first + MESSAGES_A_PAGE, net.count(2));
        for (int message = first; message < end; message++) {
            for (int station = 0; station < stations; station++) {
                int[] copy = Nets.copy(net, message, station);
                all.append("\ncopy ").append(message).append(' ').append(station).append(' ');
                all.append(java.util.Arrays.toString(copy)).append(" by");
                for (int index = 0; index < copy[3]; index++) {
                    all.append(' ').append(net.path(message, station, index));
                }
            }
        }
    }

    private static void addEvents(ReliefNet net, StringBuilder all) {
        for (int event = 0; event < net.count(13); event++) {
            all.append("\nevent ").append(java.util.Arrays.toString(Nets.event(net, event)));
        }
    }

    /** What can't be seen yet shows itself when time passes. */
    private static void addDayAfter(ReliefNet net, StringBuilder all) {
        all.append("\na day brings ").append(net.run(24));
        addCounts(net, all);
    }

    private static void addOutput(ReliefNet net, StringBuilder all) {
        all.append("\noutput ").append(Nets.output(net));
    }

    private static void addText(ReliefNet net, StringBuilder all) throws Exception {
        all.append("\nerror ").append(net.errorCode()).append(' ').append(net.errorPosition());
        all.append("\ntext ").append(Nets.textLength(net)).append(" loads ").append(net.load());
        all.append(" error ").append(net.errorCode()).append(' ').append(net.errorPosition());
        addCounts(net, all);
    }

    /** Looks at the text's length without a call that truncateText might refuse. */
    private static void addLongerText(ReliefNet net, StringBuilder all) {
        all.append("\nlonger text ");
        try {
            all.append(net.appendText(0x20202020));
        } catch (IllegalStateException full) {
            all.append("does not fit");
        }
    }

    private static void addSlot(ReliefNet net, int slot, StringBuilder all) {
        all.append("\nslot ").append(slot);
        try {
            net.restore(slot);
            addCounts(net, all);
        } catch (IllegalStateException nothingSaved) {
            all.append(" is empty");
        }
    }
}
