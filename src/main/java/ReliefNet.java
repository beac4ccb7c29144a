/**
 * A relief radio net: stations, links, messages, ways, lost frames, a log and predictions.
 * The document's promises are numbered; the methods below stand in their order.
 */
public final class ReliefNet {
    /** There is none. */
    public static final int NONE = -1;

    private static final int MOST_STATIONS = 8;
    private static final int MOST_LINKS = 16;
    private static final int MOST_MESSAGES = 24;
    private static final int MOST_EVENTS = 40;
    private static final int MOST_RATE = 9;
    private static final int MOST_QUALITY = 100;
    private static final int MOST_PRIORITY = 3;
    private static final int MOST_LIFE = 200;
    private static final int MOST_TRIES = 9;
    private static final int MOST_X = 1000002;
    private static final int MOST_WAY_TIME = 100000;
    private static final int MOST_HOURS = 72;
    private static final int TEXT_BYTES = 700;
    private static final int OUTPUT_BYTES = 64;
    private static final int SLOTS = 2;
    private static final int DAY = 24;

    private final SetupText setup = new SetupText();
    private int latestError = 0;
    private int latestErrorPosition = NONE;
    private final Net net = new Net();
    /** Predictions and loads happen here, so that the net itself stays as it is. */
    private final Net trial = new Net();
    /** A slot is null as long as nothing is saved there. */
    private final Net[] saved = new Net[SLOTS];
    private final Line line = new Line();

    public ReliefNet() {
    }

    public int appendText(int fourBytes) throws IllegalStateException {
        if (setup.length() + 4 > TEXT_BYTES) {
            throw new IllegalStateException("the text would be longer than 700 bytes");
        }
        for (int shift = 24; shift >= 0; shift -= 8) {
            setup.put(fourBytes >> shift);
        }
        return setup.length();
    }

    public int truncateText(int length) throws IllegalArgumentException {
        if (length < 0 || length > setup.length()) {
            throw new IllegalArgumentException("the length is out of range");
        }
        setup.cutTo(length);
        return setup.length();
    }

    public int load() {
        trial.clear();
        int statements = setup.readInto(trial);
        setup.cutTo(0);
        latestError = setup.error();
        latestErrorPosition = setup.errorStart();
        if (latestError != 0) {
            return NONE;
        }
        trial.findOpenLinks();
        net.takeFrom(trial);
        return statements;
    }

    public int errorCode() {
        return latestError;
    }

    public int errorPosition() {
        return latestErrorPosition;
    }

    public int addStation(int from, int to, int rate) throws IllegalArgumentException, IllegalStateException {
        if (!isHour(from) || !isHour(to) || !isRate(rate)) {
            throw new IllegalArgumentException("a number of the station is out of range");
        }
        if (net.stationCount() >= MOST_STATIONS) {
            throw new IllegalStateException("there are 8 stations");
        }
        return net.newStation(from, to, rate);
    }

    public int addLink(int one, int other, int from, int to, int quality)
            throws IndexOutOfBoundsException, IllegalArgumentException, IllegalStateException {
        if (!isStation(one) || !isStation(other)) {
            throw new IndexOutOfBoundsException("there is no such station");
        }
        if (one == other || !isHour(from) || !isHour(to) || !isQuality(quality)) {
            throw new IllegalArgumentException("both stations are the same, or a number is out of range");
        }
        if (net.linkBetween(one, other) != NONE || net.linkCount() >= MOST_LINKS) {
            throw new IllegalStateException("there is a link between both, or there are 16 links");
        }
        int link = net.newLink(one, other, from, to, quality);
        net.findOpenLinks();
        return link;
    }

    public int setStation(int station, int what, int value)
            throws IndexOutOfBoundsException, IllegalArgumentException {
        if (!isStation(station)) {
            throw new IndexOutOfBoundsException("there is no such station");
        }
        boolean fits = what == 0 || what == 1 ? isHour(value) : what == 2 && isRate(value);
        if (!fits) {
            throw new IllegalArgumentException("what or the value is out of range");
        }
        return net.changeStation(station, what, value);
    }

    public int setLink(int link, int what, int value)
            throws IndexOutOfBoundsException, IllegalArgumentException {
        if (!isLink(link)) {
            throw new IndexOutOfBoundsException("there is no such link");
        }
        boolean fits = what == 0 || what == 1 ? isHour(value) : what == 2 && isQuality(value);
        if (!fits) {
            throw new IllegalArgumentException("what or the value is out of range");
        }
        return net.changeLink(link, Net.LINK_FROM + what, value);
    }

    public void setRules(int life, int tries, int seed) throws IllegalArgumentException {
        if (life < 1 || life > MOST_LIFE || tries < 1 || tries > MOST_TRIES || seed < 0 || seed > MOST_X) {
            throw new IllegalArgumentException("a rule is out of range");
        }
        net.setLife(life);
        net.setTries(tries);
        net.setX(seed);
    }

    public int station(int station, int what) throws IndexOutOfBoundsException, IllegalArgumentException {
        if (!isStation(station)) {
            throw new IndexOutOfBoundsException("there is no such station");
        }
        if (what < 0 || what > 9) {
            throw new IllegalArgumentException("what is out of range");
        }
        return net.stationNumber(station, what);
    }

    public int link(int link, int what) throws IndexOutOfBoundsException, IllegalArgumentException {
        if (!isLink(link)) {
            throw new IndexOutOfBoundsException("there is no such link");
        }
        if (what < 0 || what > 8) {
            throw new IllegalArgumentException("what is out of range");
        }
        return net.linkNumber(link, what);
    }

    public int count(int what) throws IllegalArgumentException {
        if (what < 0 || what > 13) {
            throw new IllegalArgumentException("what is out of range");
        }
        return net.countNumber(what);
    }

    public int way(int from, int to, int time, int what)
            throws IndexOutOfBoundsException, IllegalArgumentException {
        if (!isStation(from) || !isStation(to)) {
            throw new IndexOutOfBoundsException("there is no such station");
        }
        if (from == to || time < 0 || time > MOST_WAY_TIME || what < 0 || what > 2) {
            throw new IllegalArgumentException("both stations are the same, or time or what is out of range");
        }
        return net.wayNumber(from, to, time, what);
    }

    public int reachable() {
        return net.reachablePairs(0);
    }

    public int keyStation() {
        int key = NONE;
        int fewest = 0;
        for (int station = 0; station < net.stationCount(); station++) {
            int pairs = net.reachablePairs(1 << station);
            if (key == NONE || pairs < fewest) {
                key = station;
                fewest = pairs;
            }
        }
        return key;
    }

    public int send(int from, int to, int priority)
            throws IndexOutOfBoundsException, IllegalArgumentException, IllegalStateException {
        if (!isStation(from) || !isStation(to)) {
            throw new IndexOutOfBoundsException("there is no such station");
        }
        if (from == to || !isPriority(priority)) {
            throw new IllegalArgumentException("both stations are the same, or the priority is out of range");
        }
        if (net.messageCount() >= MOST_MESSAGES) {
            throw new IllegalStateException("there are 24 messages");
        }
        return net.newMessage(from, to, priority);
    }

    public int setPriority(int message, int priority)
            throws IndexOutOfBoundsException, IllegalArgumentException {
        if (!isMessage(message)) {
            throw new IndexOutOfBoundsException("there is no such message");
        }
        if (!isPriority(priority)) {
            throw new IllegalArgumentException("the priority is out of range");
        }
        return net.changePriority(message, priority);
    }

    public int takeBack(int message) throws IndexOutOfBoundsException {
        if (!isMessage(message)) {
            throw new IndexOutOfBoundsException("there is no such message");
        }
        return net.takeCopiesBack(message);
    }

    public int message(int message, int what) throws IndexOutOfBoundsException, IllegalArgumentException {
        if (!isMessage(message)) {
            throw new IndexOutOfBoundsException("there is no such message");
        }
        if (what < 0 || what > 11) {
            throw new IllegalArgumentException("what is out of range");
        }
        return net.messageNumber(message, what);
    }

    public int copy(int message, int station, int what)
            throws IndexOutOfBoundsException, IllegalArgumentException {
        if (!isMessage(message) || !isStation(station)) {
            throw new IndexOutOfBoundsException("there is no such message or station");
        }
        if (what < 0 || what > 4) {
            throw new IllegalArgumentException("what is out of range");
        }
        return net.copyNumber(message, station, what);
    }

    public int path(int message, int station, int index) throws IndexOutOfBoundsException {
        if (!isMessage(message) || !isStation(station)) {
            throw new IndexOutOfBoundsException("there is no such message or station");
        }
        int passed = net.pathStation(message, station, index);
        if (passed == NONE) {
            throw new IndexOutOfBoundsException("there is no copy, or its path has not so many stations");
        }
        return passed;
    }

    public int sends(int station, int index) throws IndexOutOfBoundsException {
        if (!isStation(station) || index < 0) {
            throw new IndexOutOfBoundsException("there is no such station, or the index is less than 0");
        }
        return net.messageToSend(station, index);
    }

    public int run(int hours) throws IllegalArgumentException {
        if (!isHours(hours)) {
            throw new IllegalArgumentException("hours is out of range");
        }
        int before = net.messagesInState(Net.DELIVERED);
        for (int passed = 0; passed < hours; passed++) {
            net.passHour();
        }
        return net.messagesInState(Net.DELIVERED) - before;
    }

    public int stateAfter(int message, int hours) throws IndexOutOfBoundsException, IllegalArgumentException {
        if (!isMessage(message)) {
            throw new IndexOutOfBoundsException("there is no such message");
        }
        if (!isHours(hours)) {
            throw new IllegalArgumentException("hours is out of range");
        }
        trial.takeFrom(net);
        for (int passed = 0; passed < hours; passed++) {
            trial.passHour();
        }
        return trial.messageState(message);
    }

    public int hoursTo(int many) throws IllegalArgumentException {
        if (many < 1 || many > MOST_MESSAGES) {
            throw new IllegalArgumentException("many is out of range");
        }
        trial.takeFrom(net);
        int passed = 0;
        while (passed < MOST_HOURS && trial.messagesInState(Net.DELIVERED) < many) {
            trial.passHour();
            passed++;
        }
        return trial.messagesInState(Net.DELIVERED) < many ? NONE : passed;
    }

    public double meanHours() {
        int delivered = net.messagesInState(Net.DELIVERED);
        return delivered == 0 ? -1.0 : (double) net.hoursOfDelivered() / (double) delivered;
    }

    public float lossRate() {
        int frames = net.framesSent();
        return frames == 0 ? 0.0f : (float) net.framesOrAnswersLost() / (float) frames;
    }

    public int event(int event, int what) throws IndexOutOfBoundsException, IllegalArgumentException {
        if (!isEvent(event)) {
            throw new IndexOutOfBoundsException("there is no such event");
        }
        if (what < 0 || what > 4) {
            throw new IllegalArgumentException("what is out of range");
        }
        return net.eventNumber(event, what);
    }

    public int write(int event) throws IndexOutOfBoundsException {
        if (!isEvent(event)) {
            throw new IndexOutOfBoundsException("there is no such event");
        }
        line.clear();
        line.putNumber(net.eventNumber(event, EventLog.TIME));
        line.putWord(" m");
        line.putNumber(net.eventNumber(event, EventLog.MESSAGE));
        line.putWord(" ");
        line.putNumber(net.eventNumber(event, EventLog.STATION));
        int other = net.eventNumber(event, EventLog.OTHER);
        if (other != NONE) {
            line.putWord(">");
            line.putNumber(other);
        }
        line.putWord(" ");
        line.putWord(EventLog.wordOf(net.eventNumber(event, EventLog.KIND)));
        return line.length();
    }

    public int output(int index) {
        return line.byteAt(index);
    }

    public void save(int slot) throws IllegalArgumentException {
        if (slot < 0 || slot >= saved.length) {
            throw new IllegalArgumentException("the slot is out of range");
        }
        Net kept = saved[slot];
        if (kept == null) {
            kept = new Net();
            saved[slot] = kept;
        }
        kept.takeFrom(net);
    }

    public void restore(int slot) throws IllegalArgumentException, IllegalStateException {
        if (slot < 0 || slot >= saved.length) {
            throw new IllegalArgumentException("the slot is out of range");
        }
        Net kept = saved[slot];
        if (kept == null) {
            throw new IllegalStateException("nothing is saved there");
        }
        net.takeFrom(kept);
    }

    private boolean isStation(int station) {
        return station >= 0 && station < net.stationCount();
    }

    private boolean isLink(int link) {
        return link >= 0 && link < net.linkCount();
    }

    private boolean isMessage(int message) {
        return message >= 0 && message < net.messageCount();
    }

    private boolean isEvent(int event) {
        return event >= 0 && event < net.eventCount();
    }

    private static boolean isHour(int hour) {
        return hour >= 0 && hour < DAY;
    }

    private static boolean isRate(int rate) {
        return rate >= 1 && rate <= MOST_RATE;
    }

    private static boolean isQuality(int quality) {
        return quality >= 0 && quality <= MOST_QUALITY;
    }

    private static boolean isPriority(int priority) {
        return priority >= 0 && priority <= MOST_PRIORITY;
    }

    private static boolean isHours(int hours) {
        return hours >= 1 && hours <= MOST_HOURS;
    }

    /** Rows of numbers; the only place where most of the state is indexed, so the index is tested here. */
    private static final class Table {
        private final int rows;
        private final int columns;
        private final int[] cells;

        Table(int rows, int columns) {
            this.rows = rows;
            this.columns = columns;
            int size = rows * columns;
            this.cells = new int[size < 0 ? 0 : size];
        }

        int get(int row, int column) {
            if (row < 0 || row >= rows || column < 0 || column >= columns) {
                return NONE;
            }
            int place = row * columns + column;
            return place >= 0 && place < cells.length ? cells[place] : NONE;
        }

        void set(int row, int column, int value) {
            if (row < 0 || row >= rows || column < 0 || column >= columns) {
                return;
            }
            int place = row * columns + column;
            if (place >= 0 && place < cells.length) {
                cells[place] = value;
            }
        }

        void add(int row, int column, int amount) {
            set(row, column, get(row, column) + amount);
        }

        int sum(int column) {
            int sum = 0;
            for (int row = 0; row < rows; row++) {
                sum += get(row, column);
            }
            return sum;
        }

        void clear() {
            for (int place = 0; place < cells.length; place++) {
                cells[place] = 0;
            }
        }

        void takeFrom(Table other) {
            System.arraycopy(other.cells, 0, cells, 0, Math.min(other.cells.length, cells.length));
        }
    }

    /** The latest events, in a ring, so that a new one costs the same however many there were. */
    private static final class EventLog {
        static final int TIME = 0;
        static final int KIND = 1;
        static final int MESSAGE = 2;
        static final int STATION = 3;
        static final int OTHER = 4;

        static final int BORN = 0;
        static final int PASSED = 1;
        static final int LOST = 2;
        static final int UNSURE = 3;
        static final int DOUBLE = 4;
        static final int DELIVERED = 5;
        static final int STOPPED = 6;
        static final int EXPIRED = 7;
        static final int BACK = 8;

        private final Table events = new Table(MOST_EVENTS, 5);
        private int first = 0;
        private int size = 0;

        void clear() {
            events.clear();
            first = 0;
            size = 0;
        }

        void takeFrom(EventLog other) {
            events.takeFrom(other.events);
            first = other.first;
            size = other.size;
        }

        int size() {
            return size;
        }

        int number(int event, int what) {
            return events.get((first + event) % MOST_EVENTS, what);
        }

        void add(int time, int kind, int message, int station, int other) {
            int row = (first + size) % MOST_EVENTS;
            if (size < MOST_EVENTS) {
                size++;
            } else {
                first = (first + 1) % MOST_EVENTS;
            }
            events.set(row, TIME, time);
            events.set(row, KIND, kind);
            events.set(row, MESSAGE, message);
            events.set(row, STATION, station);
            events.set(row, OTHER, other);
        }

        static String wordOf(int kind) {
            switch (kind) {
                case BORN:
                    return "born";
                case PASSED:
                    return "passed";
                case LOST:
                    return "lost";
                case UNSURE:
                    return "unsure";
                case DOUBLE:
                    return "double";
                case DELIVERED:
                    return "delivered";
                case STOPPED:
                    return "stopped";
                case EXPIRED:
                    return "expired";
                case BACK:
                    return "back";
                default:
                    return "";
            }
        }
    }

    /** Which stations hear one another in which hour of the day, and the best ways over them. */
    private static final class Ways {
        private static final int MOST_WAY_HOURS = 24;
        /** A set of stations takes so many bits, and the best ways have fewer links than that. */
        private static final int SET_BITS = 8;
        private static final int SET_MASK = 255;
        /** In each of the eight sets of a long the lowest station. */
        private static final long LOWEST_IN_ALL = 0x0101010101010101L;

        /** For each hour of the day eight sets: for each station those that it has an open link to. */
        private final long[] heard = new long[DAY];
        private int arrival = NONE;
        private int fewest = NONE;
        private int next = NONE;

        void clear() {
            for (int hour = 0; hour < heard.length; hour++) {
                heard[hour] = 0;
            }
        }

        void takeFrom(Ways other) {
            System.arraycopy(other.heard, 0, heard, 0, Math.min(other.heard.length, heard.length));
        }

        void connect(int hour, int one, int other) {
            if (hour >= 0 && hour < heard.length) {
                heard[hour] |= 1L << one * SET_BITS + other | 1L << other * SET_BITS + one;
            }
        }

        boolean goesFrom(int station, int time, int barred) {
            return (setOf(heardAt(time), station) & ~barred) != 0;
        }

        /** Finds the best ways that do not come to barred stations; false if there is no way. */
        boolean find(int from, int to, int time, int barred) {
            int hours = hoursOfEarliest(from, to, time, barred);
            if (hours == NONE) {
                return false;
            }
            arrival = time + hours;
            int firsts = setOf(heardAt(time), from) & ~barred;
            // The first station is barred for a copy, but its copy may wait there.
            long rests = restsAfterFirstHour(to, time, hours, barred & ~(1 << from));
            fewest = NONE;
            next = NONE;
            for (int links = 0; links < SET_BITS && fewest == NONE; links++) {
                int near = links == 0 ? 0 : setOf(rests, links - 1) & firsts;
                if (near != 0) {
                    next = Integer.numberOfTrailingZeros(near);
                    fewest = links;
                } else if ((setOf(rests, links) >> from & 1) == 1) {
                    fewest = links;
                }
            }
            return true;
        }

        int arrival() {
            return arrival;
        }

        int fewest() {
            return fewest;
        }

        /** The lowest station to which a best way goes in the very first hour. */
        int next() {
            return next;
        }

        /** Counts the stations other than the first one to which there is a way. */
        int reached(int from, int time, int barred) {
            int there = 1 << from;
            for (int passed = 0; passed < MOST_WAY_HOURS; passed++) {
                there |= heardBy(there, heardAt(time + passed)) & ~barred;
            }
            return Integer.bitCount(there) - 1;
        }

        /** The hours that the ways take that arrive earliest; NONE if there is no way. */
        private int hoursOfEarliest(int from, int to, int time, int barred) {
            int there = 1 << from;
            for (int passed = 0; passed < MOST_WAY_HOURS; passed++) {
                there |= heardBy(there, heardAt(time + passed)) & ~barred;
                if ((there >> to & 1) == 1) {
                    return passed + 1;
                }
            }
            return NONE;
        }

        /**
         * Eight sets, by numbers of links: the stations from which so many links, or fewer, lead on in time if
         * the first hour has passed. They are found backwards, from the hour of the arrival on. Nobody has to
         * be kept from coming to the first station again, since waiting there takes fewer links.
         */
        private long restsAfterFirstHour(int to, int time, int hours, int barred) {
            long rests = LOWEST_IN_ALL << to;
            long allowed = LOWEST_IN_ALL * (SET_MASK & ~barred);
            for (int passed = hours - 1; passed > 0; passed--) {
                long hearing = heardAt(time + passed);
                long oneLinkFurther = 0;
                for (int station = 0; station < MOST_STATIONS; station++) {
                    // A product puts the set that the station hears where the station itself stood.
                    oneLinkFurther |= (rests >>> station & LOWEST_IN_ALL) * setOf(hearing, station);
                }
                rests |= oneLinkFurther << SET_BITS & allowed;
            }
            return rests;
        }

        private static int heardBy(int stations, long hearing) {
            long sets = 0;
            for (int station = 0; station < MOST_STATIONS; station++) {
                if ((stations >> station & 1) == 1) {
                    sets |= hearing >>> station * SET_BITS;
                }
            }
            return (int) sets & SET_MASK;
        }

        private long heardAt(int time) {
            int hour = time % DAY;
            return hour >= 0 && hour < heard.length ? heard[hour] : 0;
        }

        private static int setOf(long sets, int index) {
            return (int) (sets >>> index * SET_BITS) & SET_MASK;
        }
    }

    /** All that save keeps: the net with its messages, its time and its log. */
    private static final class Net {
        // The columns bear the numbers that the document gives in station, link, message and copy.
        static final int STATION_FROM = 0;
        static final int STATION_TO = 1;
        static final int STATION_RATE = 2;
        static final int STATION_ON_AIR = 3;
        static final int STATION_WAITING = 4;
        static final int STATION_SENT = 5;
        static final int STATION_GOT = 6;
        static final int STATION_DUPLICATES = 7;
        static final int STATION_DELIVERED = 8;
        static final int STATION_LINKS = 9;

        static final int LINK_ONE = 0;
        static final int LINK_OTHER = 1;
        static final int LINK_FROM = 2;
        static final int LINK_TO = 3;
        static final int LINK_QUALITY = 4;
        static final int LINK_OPEN = 5;
        static final int LINK_FRAMES = 6;
        static final int LINK_LOST = 7;
        static final int LINK_UNSURE = 8;

        static final int MESSAGE_FROM = 0;
        static final int MESSAGE_TO = 1;
        static final int MESSAGE_PRIORITY = 2;
        static final int MESSAGE_BORN = 3;
        static final int MESSAGE_STATE = 4;
        static final int MESSAGE_DELIVERED = 5;
        static final int MESSAGE_LINKS = 6;
        static final int MESSAGE_FRAMES = 7;
        static final int MESSAGE_DUPLICATES = 8;
        static final int MESSAGE_WAITING = 9;
        static final int MESSAGE_END = 10;
        static final int MESSAGE_END_OTHER = 11;

        static final int COPY_STATE = 0;
        static final int COPY_TRIES = 1;
        static final int COPY_TIME = 2;
        static final int COPY_LENGTH = 3;
        static final int COPY_NEXT = 4;
        /** The path itself takes the column of the NEXT station, which is not kept. */
        static final int COPY_PATH = 4;

        static final int FRAME_MESSAGE = 0;
        static final int FRAME_NEXT = 1;

        static final int UNDER_WAY = 0;
        static final int DELIVERED = 1;
        static final int ENDED = 2;

        static final int NO_COPY = 0;
        static final int COPY_WAITS = 1;
        static final int COPY_PASSED = 2;
        static final int COPY_STOPPED = 3;
        static final int COPY_EXPIRED = 4;
        static final int COPY_DELIVERED = 5;

        /** A station of a path takes so many bits. */
        private static final int PATH_BITS = 3;
        private static final int PATH_MASK = 7;

        private final Table stations = new Table(MOST_STATIONS, 10);
        private final Table links = new Table(MOST_LINKS, 9);
        private final Table messages = new Table(MOST_MESSAGES, 12);
        private final Table copies = new Table(MOST_MESSAGES * MOST_STATIONS, 5);
        private final EventLog log = new EventLog();
        private final Ways ways = new Ways();
        /** What a station sends in this hour, in its order. */
        private final Table frames = new Table(MOST_RATE, 2);
        private int stationCount = 0;
        private int linkCount = 0;
        private int messageCount = 0;
        private int time = 0;
        private int life = 48;
        private int tries = 3;
        private int x = 1;

        void clear() {
            stations.clear();
            links.clear();
            messages.clear();
            copies.clear();
            log.clear();
            ways.clear();
            stationCount = 0;
            linkCount = 0;
            messageCount = 0;
            time = 0;
            life = 48;
            tries = 3;
            x = 1;
        }

        void takeFrom(Net other) {
            stations.takeFrom(other.stations);
            links.takeFrom(other.links);
            messages.takeFrom(other.messages);
            copies.takeFrom(other.copies);
            log.takeFrom(other.log);
            ways.takeFrom(other.ways);
            stationCount = other.stationCount;
            linkCount = other.linkCount;
            messageCount = other.messageCount;
            time = other.time;
            life = other.life;
            tries = other.tries;
            x = other.x;
        }

        int stationCount() {
            return stationCount;
        }

        int linkCount() {
            return linkCount;
        }

        int messageCount() {
            return messageCount;
        }

        int eventCount() {
            return log.size();
        }

        int eventNumber(int event, int what) {
            return log.number(event, what);
        }

        void setLife(int newLife) {
            life = newLife;
        }

        void setTries(int newTries) {
            tries = newTries;
        }

        void setX(int newX) {
            x = newX;
        }

        int newStation(int from, int to, int rate) {
            int station = stationCount;
            stations.set(station, STATION_FROM, from);
            stations.set(station, STATION_TO, to);
            stations.set(station, STATION_RATE, rate);
            stationCount++;
            return station;
        }

        /** The caller has findOpenLinks called behind it. */
        int newLink(int one, int other, int from, int to, int quality) {
            int link = linkCount;
            links.set(link, LINK_ONE, one);
            links.set(link, LINK_OTHER, other);
            links.set(link, LINK_FROM, from);
            links.set(link, LINK_TO, to);
            links.set(link, LINK_QUALITY, quality);
            linkCount++;
            return link;
        }

        int newMessage(int from, int to, int priority) {
            int message = messageCount;
            messages.set(message, MESSAGE_FROM, from);
            messages.set(message, MESSAGE_TO, to);
            messages.set(message, MESSAGE_PRIORITY, priority);
            messages.set(message, MESSAGE_BORN, time);
            messages.set(message, MESSAGE_DELIVERED, NONE);
            messages.set(message, MESSAGE_LINKS, NONE);
            noteEnd(message, NONE, NONE);
            int row = copyRow(message, from);
            copies.set(row, COPY_STATE, COPY_WAITS);
            copies.set(row, COPY_TIME, time);
            copies.set(row, COPY_LENGTH, 1);
            copies.set(row, COPY_PATH, from);
            messageCount++;
            log.add(time, EventLog.BORN, message, from, NONE);
            return message;
        }

        int changeStation(int station, int column, int value) {
            int previous = stations.get(station, column);
            stations.set(station, column, value);
            findOpenLinks();
            return previous;
        }

        int changeLink(int link, int column, int value) {
            int previous = links.get(link, column);
            links.set(link, column, value);
            findOpenLinks();
            return previous;
        }

        int changePriority(int message, int priority) {
            int previous = messages.get(message, MESSAGE_PRIORITY);
            messages.set(message, MESSAGE_PRIORITY, priority);
            return previous;
        }

        int linkBetween(int one, int other) {
            for (int link = 0; link < linkCount; link++) {
                int first = links.get(link, LINK_ONE);
                int second = links.get(link, LINK_OTHER);
                if (first == one && second == other || first == other && second == one) {
                    return link;
                }
            }
            return NONE;
        }

        /** For all hours of the day at once, since ways are asked for far more often than these hours change. */
        void findOpenLinks() {
            ways.clear();
            for (int link = 0; link < linkCount; link++) {
                for (int hour = 0; hour < DAY; hour++) {
                    if (isOpen(link, hour)) {
                        ways.connect(hour, links.get(link, LINK_ONE), links.get(link, LINK_OTHER));
                    }
                }
            }
        }

        int stationNumber(int station, int what) {
            switch (what) {
                case STATION_ON_AIR:
                    return isOnAir(station, hourOfDay()) ? 1 : 0;
                case STATION_WAITING:
                    return copiesThatWait(0, messageCount, station, station + 1);
                case STATION_LINKS:
                    return linksOf(station);
                default:
                    return stations.get(station, what);
            }
        }

        int linkNumber(int link, int what) {
            if (what == LINK_OPEN) {
                return isOpen(link, hourOfDay()) ? 1 : 0;
            }
            return links.get(link, what);
        }

        int countNumber(int what) {
            switch (what) {
                case 0:
                    return stationCount;
                case 1:
                    return linkCount;
                case 2:
                    return messageCount;
                case 3:
                    return time;
                case 4:
                    return life;
                case 5:
                    return tries;
                case 6:
                    return x;
                case 7:
                    return messagesInState(UNDER_WAY);
                case 8:
                    return messagesInState(DELIVERED);
                case 9:
                    return messagesInState(ENDED);
                case 10:
                    return copiesThatWait(0, messageCount, 0, stationCount);
                case 11:
                    return framesSent();
                case 12:
                    return stations.sum(STATION_DUPLICATES);
                case 13:
                    return log.size();
                default:
                    return NONE;
            }
        }

        int wayNumber(int from, int to, int begin, int what) {
            if (!ways.find(from, to, begin, 0)) {
                return NONE;
            }
            switch (what) {
                case 0:
                    return ways.arrival();
                case 1:
                    return ways.fewest();
                default:
                    return ways.next();
            }
        }

        int reachablePairs(int barred) {
            int pairs = 0;
            for (int from = 0; from < stationCount; from++) {
                if ((barred >> from & 1) == 0) {
                    pairs += ways.reached(from, time, barred);
                }
            }
            return pairs;
        }

        int messageNumber(int message, int what) {
            switch (what) {
                case MESSAGE_STATE:
                    return messageState(message);
                case MESSAGE_WAITING:
                    return copiesThatWait(message, message + 1, 0, stationCount);
                default:
                    return messages.get(message, what);
            }
        }

        int messageState(int message) {
            if (messages.get(message, MESSAGE_DELIVERED) != NONE) {
                return DELIVERED;
            }
            return copiesThatWait(message, message + 1, 0, stationCount) > 0 ? UNDER_WAY : ENDED;
        }

        int messagesInState(int state) {
            int count = 0;
            for (int message = 0; message < messageCount; message++) {
                if (messageState(message) == state) {
                    count++;
                }
            }
            return count;
        }

        int copyNumber(int message, int station, int what) {
            int row = copyRow(message, station);
            if (what != COPY_STATE && copies.get(row, COPY_STATE) == NO_COPY) {
                return NONE;
            }
            return what == COPY_NEXT ? nextOf(message, station) : copies.get(row, what);
        }

        /** Tells a station of the path of a copy; NONE if there is no copy or no such station. */
        int pathStation(int message, int station, int index) {
            int row = copyRow(message, station);
            if (copies.get(row, COPY_STATE) == NO_COPY || index < 0 || index >= copies.get(row, COPY_LENGTH)) {
                return NONE;
            }
            return copies.get(row, COPY_PATH) >> index * PATH_BITS & PATH_MASK;
        }

        int messageToSend(int station, int index) {
            return index < lineUp(station) ? frames.get(index, FRAME_MESSAGE) : NONE;
        }

        int takeCopiesBack(int message) {
            int count = 0;
            for (int station = 0; station < stationCount; station++) {
                if (waits(message, station)) {
                    endCopy(message, station, NONE, COPY_STOPPED, EventLog.BACK);
                    count++;
                }
            }
            return count;
        }

        int hoursOfDelivered() {
            int hours = 0;
            for (int message = 0; message < messageCount; message++) {
                if (messageState(message) == DELIVERED) {
                    hours += messages.get(message, MESSAGE_DELIVERED) - messages.get(message, MESSAGE_BORN);
                }
            }
            return hours;
        }

        int framesSent() {
            return links.sum(LINK_FRAMES);
        }

        int framesOrAnswersLost() {
            return links.sum(LINK_LOST) + links.sum(LINK_UNSURE);
        }

        void passHour() {
            expireCopies();
            for (int station = 0; station < stationCount; station++) {
                int count = lineUp(station);
                for (int index = 0; index < count; index++) {
                    sendFrame(frames.get(index, FRAME_MESSAGE), station, frames.get(index, FRAME_NEXT));
                }
            }
            time++;
        }

        private void expireCopies() {
            for (int message = 0; message < messageCount; message++) {
                if (time - messages.get(message, MESSAGE_BORN) >= life) {
                    for (int station = 0; station < stationCount; station++) {
                        if (waits(message, station)) {
                            endCopy(message, station, NONE, COPY_EXPIRED, EventLog.EXPIRED);
                        }
                    }
                }
            }
        }

        /** Puts the frames in order that a station sends in the hour that begins now, and counts them. */
        private int lineUp(int station) {
            if (!isOnAir(station, hourOfDay())) {
                return 0;
            }
            int rate = stations.get(station, STATION_RATE);
            int count = 0;
            for (int priority = MOST_PRIORITY; priority >= 0; priority--) {
                for (int message = 0; message < messageCount && count < rate; message++) {
                    int next = messages.get(message, MESSAGE_PRIORITY) == priority ? nextOf(message, station) : NONE;
                    if (next != NONE) {
                        frames.set(count, FRAME_MESSAGE, message);
                        frames.set(count, FRAME_NEXT, next);
                        count++;
                    }
                }
            }
            return count;
        }

        private int nextOf(int message, int station) {
            int row = copyRow(message, station);
            // A copy that came in this very hour waits, but is not there yet.
            if (copies.get(row, COPY_STATE) != COPY_WAITS || copies.get(row, COPY_TIME) > time) {
                return NONE;
            }
            int barred = pathStations(row);
            // Most searches are spared by looking at the links that are open now.
            if (!ways.goesFrom(station, time, barred)) {
                return NONE;
            }
            return ways.find(station, messages.get(message, MESSAGE_TO), time, barred) ? ways.next() : NONE;
        }

        private void sendFrame(int message, int from, int to) {
            int link = linkBetween(from, to);
            int quality = links.get(link, LINK_QUALITY);
            stations.add(from, STATION_SENT, 1);
            links.add(link, LINK_FRAMES, 1);
            messages.add(message, MESSAGE_FRAMES, 1);
            if (draw() >= quality) {
                links.add(link, LINK_LOST, 1);
                log.add(time, EventLog.LOST, message, from, to);
                addTry(message, from, to);
                return;
            }
            takeFrame(message, from, to);
            if (draw() >= quality) {
                links.add(link, LINK_UNSURE, 1);
                log.add(time, EventLog.UNSURE, message, from, to);
                addTry(message, from, to);
                return;
            }
            copies.set(copyRow(message, from), COPY_STATE, COPY_PASSED);
            log.add(time, EventLog.PASSED, message, from, to);
        }

        private void takeFrame(int message, int from, int to) {
            stations.add(to, STATION_GOT, 1);
            int row = copyRow(message, to);
            if (copies.get(row, COPY_STATE) != NO_COPY) {
                stations.add(to, STATION_DUPLICATES, 1);
                messages.add(message, MESSAGE_DUPLICATES, 1);
                log.add(time, EventLog.DOUBLE, message, to, from);
                return;
            }
            int sent = copyRow(message, from);
            int length = copies.get(sent, COPY_LENGTH);
            boolean arrives = messages.get(message, MESSAGE_TO) == to;
            copies.set(row, COPY_STATE, arrives ? COPY_DELIVERED : COPY_WAITS);
            copies.set(row, COPY_TRIES, 0);
            copies.set(row, COPY_TIME, time + 1);
            copies.set(row, COPY_LENGTH, length + 1);
            copies.set(row, COPY_PATH, copies.get(sent, COPY_PATH) | to << length * PATH_BITS);
            if (arrives) {
                messages.set(message, MESSAGE_DELIVERED, time + 1);
                messages.set(message, MESSAGE_LINKS, length);
                stations.add(to, STATION_DELIVERED, 1);
                log.add(time, EventLog.DELIVERED, message, to, from);
            }
        }

        private void addTry(int message, int from, int to) {
            int row = copyRow(message, from);
            copies.add(row, COPY_TRIES, 1);
            // More than TRIES can be there if TRIES was lowered meanwhile.
            if (copies.get(row, COPY_TRIES) >= tries) {
                endCopy(message, from, to, COPY_STOPPED, EventLog.STOPPED);
            }
        }

        private void endCopy(int message, int station, int other, int state, int kind) {
            copies.set(copyRow(message, station), COPY_STATE, state);
            noteEnd(message, station, other);
            log.add(time, kind, message, station, other);
        }

        private void noteEnd(int message, int station, int other) {
            messages.set(message, MESSAGE_END, station);
            messages.set(message, MESSAGE_END_OTHER, other);
        }

        private int draw() {
            x = (1103 * x + 12345) % 1000003;
            return x % 100;
        }

        private int hourOfDay() {
            return time % DAY;
        }

        private boolean isOnAir(int station, int hour) {
            return isWithin(stations.get(station, STATION_FROM), stations.get(station, STATION_TO), hour);
        }

        private boolean isOpen(int link, int hour) {
            return isWithin(links.get(link, LINK_FROM), links.get(link, LINK_TO), hour)
                    && isOnAir(links.get(link, LINK_ONE), hour)
                    && isOnAir(links.get(link, LINK_OTHER), hour);
        }

        private static boolean isWithin(int from, int to, int hour) {
            return from <= to ? from <= hour && hour <= to : from <= hour || hour <= to;
        }

        private int linksOf(int station) {
            int count = 0;
            for (int link = 0; link < linkCount; link++) {
                if (links.get(link, LINK_ONE) == station || links.get(link, LINK_OTHER) == station) {
                    count++;
                }
            }
            return count;
        }

        private int copiesThatWait(int fromMessage, int toMessage, int fromStation, int toStation) {
            int count = 0;
            for (int message = fromMessage; message < toMessage; message++) {
                for (int station = fromStation; station < toStation; station++) {
                    if (waits(message, station)) {
                        count++;
                    }
                }
            }
            return count;
        }

        private boolean waits(int message, int station) {
            return copies.get(copyRow(message, station), COPY_STATE) == COPY_WAITS;
        }

        /** The set of stations that a copy came by. */
        private int pathStations(int row) {
            int path = copies.get(row, COPY_PATH);
            int length = copies.get(row, COPY_LENGTH);
            int set = 0;
            for (int index = 0; index < length; index++) {
                set |= 1 << (path >> index * PATH_BITS & PATH_MASK);
            }
            return set;
        }

        private static int copyRow(int message, int station) {
            return message * MOST_STATIONS + station;
        }
    }

    /** The text buffer, and its reader, which stops at the first token that is wrong. */
    private static final class SetupText {
        private static final int END = 0;
        private static final int WORD = 1;
        private static final int NUMBER = 2;
        private static final int SEMICOLON = 3;
        private static final int NO_TOKEN = 4;

        private static final int NOT_ALLOWED = 1;
        private static final int OUT_OF_RANGE = 2;
        private static final int TOO_MANY = 3;
        private static final int NOT_ANOTHER = 4;

        /** Larger than every range, so that longer numbers need not be told apart. */
        private static final int HUGE = 10000000;

        private final byte[] text = new byte[TEXT_BYTES];
        private int length = 0;
        private int kind = END;
        private int start = 0;
        private int end = 0;
        private int value = 0;
        private int error = 0;
        private int errorStart = NONE;

        int length() {
            return length;
        }

        void put(int sign) {
            if (length >= 0 && length < text.length) {
                text[length] = (byte) sign;
                length++;
            }
        }

        void cutTo(int newLength) {
            length = newLength;
        }

        int error() {
            return error;
        }

        int errorStart() {
            return errorStart;
        }

        /** Returns the number of statements; with an error neither the number nor the net is of use. */
        int readInto(Net net) {
            end = 0;
            error = 0;
            errorStart = NONE;
            int statements = 0;
            nextToken();
            // A statement takes more than one byte.
            while (kind != END && error == 0 && statements <= TEXT_BYTES) {
                readStatement(net);
                statements++;
                nextToken();
            }
            return statements;
        }

        private void readStatement(Net net) {
            if (kind != WORD) {
                fail(NOT_ALLOWED);
            } else if (isWord("station")) {
                readStation(net);
            } else if (isWord("link")) {
                readLink(net);
            } else if (isWord("message")) {
                readMessage(net);
            } else if (isWord("life")) {
                net.setLife(readNumber(1, MOST_LIFE));
            } else if (isWord("tries")) {
                net.setTries(readNumber(1, MOST_TRIES));
            } else if (isWord("seed")) {
                net.setX(readNumber(0, MOST_X));
            } else {
                fail(NOT_ALLOWED);
            }
            readSemicolon();
        }

        private void readStation(Net net) {
            if (net.stationCount() >= MOST_STATIONS) {
                fail(TOO_MANY);
            }
            int from = readNumber(0, DAY - 1);
            int to = readNumber(0, DAY - 1);
            int rate = readNumber(1, MOST_RATE);
            if (error == 0) {
                net.newStation(from, to, rate);
            }
        }

        private void readLink(Net net) {
            if (net.linkCount() >= MOST_LINKS) {
                fail(TOO_MANY);
            }
            int one = readNumber(0, net.stationCount() - 1);
            int other = readNumber(0, net.stationCount() - 1);
            if (other == one || net.linkBetween(one, other) != NONE) {
                fail(NOT_ANOTHER);
            }
            int from = readNumber(0, DAY - 1);
            int to = readNumber(0, DAY - 1);
            int quality = readNumber(0, MOST_QUALITY);
            if (error == 0) {
                net.newLink(one, other, from, to, quality);
            }
        }

        private void readMessage(Net net) {
            if (net.messageCount() >= MOST_MESSAGES) {
                fail(TOO_MANY);
            }
            int one = readNumber(0, net.stationCount() - 1);
            int other = readNumber(0, net.stationCount() - 1);
            if (other == one) {
                fail(NOT_ANOTHER);
            }
            int priority = readNumber(0, MOST_PRIORITY);
            if (error == 0) {
                net.newMessage(one, other, priority);
            }
        }

        /** Returns NONE if there is an error, here or before. */
        private int readNumber(int least, int most) {
            if (error != 0) {
                return NONE;
            }
            nextToken();
            if (kind != NUMBER) {
                fail(NOT_ALLOWED);
            } else if (value < least || value > most) {
                fail(OUT_OF_RANGE);
            }
            return error == 0 ? value : NONE;
        }

        private void readSemicolon() {
            if (error != 0) {
                return;
            }
            nextToken();
            if (kind != SEMICOLON) {
                fail(NOT_ALLOWED);
            }
        }

        /** Only the first error counts. */
        private void fail(int code) {
            if (error == 0) {
                error = code;
                errorStart = start;
            }
        }

        private void nextToken() {
            start = end;
            while (start < length && (byteAt(start) == ' ' || byteAt(start) == '\n')) {
                start++;
            }
            end = start;
            value = 0;
            kind = start < length ? kindOf(byteAt(start)) : END;
            if (kind == WORD || kind == NUMBER) {
                while (end < length && kindOf(byteAt(end)) == kind) {
                    value = kind == NUMBER ? Math.min(value * 10 + byteAt(end) - '0', HUGE) : 0;
                    end++;
                }
            } else if (kind != END) {
                end++;
            }
        }

        private static int kindOf(int sign) {
            if (sign >= 'a' && sign <= 'z') {
                return WORD;
            }
            if (sign >= '0' && sign <= '9') {
                return NUMBER;
            }
            return sign == ';' ? SEMICOLON : NO_TOKEN;
        }

        private boolean isWord(String word) {
            if (end - start != word.length()) {
                return false;
            }
            for (int index = 0; index < word.length(); index++) {
                if (byteAt(start + index) != word.charAt(index)) {
                    return false;
                }
            }
            return true;
        }

        private int byteAt(int index) {
            return index >= 0 && index < text.length ? text[index] : 0;
        }
    }

    /** The output: one line, whose bytes are used again by the next one. */
    private static final class Line {
        private final byte[] bytes = new byte[OUTPUT_BYTES];
        private int length = 0;

        void clear() {
            length = 0;
        }

        int length() {
            return length;
        }

        int byteAt(int index) {
            return index >= 0 && index < length && index < bytes.length ? bytes[index] : NONE;
        }

        void putWord(String word) {
            for (int index = 0; index < word.length(); index++) {
                put(word.charAt(index));
            }
        }

        void putNumber(int number) {
            for (int unit = 1000000000; unit > 0; unit /= 10) {
                if (unit <= number || unit == 1) {
                    put('0' + number / unit % 10);
                }
            }
        }

        private void put(int sign) {
            if (length >= 0 && length < bytes.length) {
                bytes[length] = (byte) sign;
                length++;
            }
        }
    }
}
