/** Calls that must be refused, and what a net is like afterwards. */
final class Refused {
    interface Call {
        void on(ReliefNet net) throws Exception;
    }

    interface Of {
        void on(ReliefNet net, int value) throws Exception;
    }

    interface Read {
        int on(ReliefNet net) throws Exception;
    }

    private Refused() {
    }

    static void index(Picture.Maker maker, Call... calls) throws Exception {
        all(IndexOutOfBoundsException.class, maker, calls);
    }

    static void argument(Picture.Maker maker, Call... calls) throws Exception {
        all(IllegalArgumentException.class, maker, calls);
    }

    static void state(Picture.Maker maker, Call... calls) throws Exception {
        all(IllegalStateException.class, maker, calls);
    }

    /** Each call is refused with just this exception, and the net stays as one on which nobody called. */
    private static void all(Class<? extends RuntimeException> due, Picture.Maker maker, Call... calls)
            throws Exception {
        String untouched = Picture.of(() -> withTexts(maker.make()));
        Check.equal(untouched, Picture.of(() -> {
            ReliefNet net = withTexts(maker.make());
            for (Call call : calls) {
                Check.refused(due, () -> call.on(net));
            }
            return net;
        }));
    }

    /**
     * A change of an empty text or output could not be seen, so a net without an output gets both, if that is
     * possible. Nothing is refused here, since that might change what has to be compared.
     */
    private static ReliefNet withTexts(ReliefNet net) {
        if (net.output(0) != ReliefNet.NONE) {
            return net;
        }
        int length = net.appendText(0x20202020) - 4;
        net.truncateText(length);
        if (length == 0) {
            Nets.append(net, "seed 7;");
        }
        if (net.count(13) > 0) {
            net.write(0);
        }
        return net;
    }

    static void indexBeyond(Picture.Maker maker, int least, int most, Of call) throws Exception {
        index(maker, beyond(least, most, call));
    }

    static void argumentBeyond(Picture.Maker maker, int least, int most, Of call) throws Exception {
        argument(maker, beyond(least, most, call));
    }

    /** The least and the largest value are taken, and read again; the first beyond on either side is refused. */
    static void range(Picture.Maker maker, int least, int most, Of write, Read read) throws Exception {
        for (int value : new int[] {least, most}) {
            ReliefNet net = maker.make();
            write.on(net, value);
            Check.equal(value, read.on(net));
        }
        argumentBeyond(maker, least, most, write);
    }

    /** The first values beyond a range on either side, and the ends of int. */
    private static Call[] beyond(int least, int most, Of call) {
        int[] values = {least - 1, most + 1, Integer.MIN_VALUE, Integer.MAX_VALUE};
        Call[] calls = new Call[values.length];
        for (int index = 0; index < values.length; index++) {
            int value = values[index];
            calls[index] = net -> call.on(net, value);
        }
        return calls;
    }
}
