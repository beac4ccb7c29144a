import java.util.ArrayList;
import java.util.Arrays;
import java.util.List;
import java.util.regex.Matcher;
import java.util.regex.Pattern;

/**
 * A second ReliefNet, written from the document by other means (objects, lists, all ways tried out), to be
 * compared with the first one. It is slow, and nothing here is shared with the class under test.
 */
public final class ReferenceNet {
    private static final String[] WORDS =
        {"born", "passed", "lost", "unsure", "double", "delivered", "stopped", "expired", "back"};

    private static final class Station {
        int from;
        int to;
        int rate;
        int sent;
        int got;
        int doubles;
        int delivered;

        Station(int from, int to, int rate) {
            this.from = from;
            this.to = to;
            this.rate = rate;
        }

        Station twin() {
            Station twin = new Station(from, to, rate);
            twin.sent = sent;
            twin.got = got;
            twin.doubles = doubles;
            twin.delivered = delivered;
            return twin;
        }
    }

    private static final class Link {
        int one;
        int other;
        int from;
        int to;
        int quality;
        int frames;
        int lost;
        int unsure;

        Link(int one, int other, int from, int to, int quality) {
            this.one = one;
            this.other = other;
            this.from = from;
            this.to = to;
            this.quality = quality;
        }

        Link twin() {
            Link twin = new Link(one, other, from, to, quality);
            twin.frames = frames;
            twin.lost = lost;
            twin.unsure = unsure;
            return twin;
        }
    }

    private static final class Copy {
        int state = 1;
        int tries;
        int since;
        List<Integer> path = new ArrayList<>();

        Copy twin() {
            Copy twin = new Copy();
            twin.state = state;
            twin.tries = tries;
            twin.since = since;
            twin.path = new ArrayList<>(path);
            return twin;
        }
    }

    private static final class Message {
        int from;
        int to;
        int priority;
        int born;
        int frames;
        int doubles;
        int end = -1;
        int endOther = -1;
        Copy[] copies = new Copy[8];

        int state() {
            boolean waits = false;
            for (Copy copy : copies) {
                if (copy != null && copy.state == 5) {
                    return 1;
                }
                waits |= copy != null && copy.state == 1;
            }
            return waits ? 0 : 2;
        }

        int waiting() {
            int count = 0;
            for (Copy copy : copies) {
                count += copy != null && copy.state == 1 ? 1 : 0;
            }
            return count;
        }

        Message twin() {
            Message twin = new Message();
            twin.from = from;
            twin.to = to;
            twin.priority = priority;
            twin.born = born;
            twin.frames = frames;
            twin.doubles = doubles;
            twin.end = end;
            twin.endOther = endOther;
            for (int station = 0; station < 8; station++) {
                twin.copies[station] = copies[station] == null ? null : copies[station].twin();
            }
            return twin;
        }
    }

    private static final class World {
        List<Station> stations = new ArrayList<>();
        List<Link> links = new ArrayList<>();
        List<Message> messages = new ArrayList<>();
        List<int[]> events = new ArrayList<>();
        int time;
        int life = 48;
        int tries = 3;
        long x = 1;

        World twin() {
            World twin = new World();
            stations.forEach(station -> twin.stations.add(station.twin()));
            links.forEach(link -> twin.links.add(link.twin()));
            messages.forEach(message -> twin.messages.add(message.twin()));
            twin.events.addAll(events);
            twin.time = time;
            twin.life = life;
            twin.tries = tries;
            twin.x = x;
            return twin;
        }

        void log(int kind, int message, int station, int other) {
            events.add(new int[] {time, kind, message, station, other});
            while (events.size() > 40) {
                events.remove(0);
            }
        }

        int draw() {
            x = (1103 * x + 12345) % 1000003;
            return (int) (x % 100);
        }

        static boolean inHours(int from, int to, int hour) {
            for (int at = from; ; at = (at + 1) % 24) {
                if (at == hour) {
                    return true;
                }
                if (at == to) {
                    return false;
                }
            }
        }

        boolean onAir(int station, int at) {
            return inHours(stations.get(station).from, stations.get(station).to, at % 24);
        }

        boolean open(Link link, int at) {
            return inHours(link.from, link.to, at % 24) && onAir(link.one, at) && onAir(link.other, at);
        }

        Link between(int one, int other) {
            for (Link link : links) {
                if (link.one == one && link.other == other || link.one == other && link.other == one) {
                    return link;
                }
            }
            return null;
        }

        /** The arrival, the links and the next station of the best ways; null if there is none. */
        int[] best(int from, int to, int begin, List<Integer> barred) {
            int[] best = {Integer.MAX_VALUE, Integer.MAX_VALUE, -1};
            List<Integer> way = new ArrayList<>(List.of(from));
            tryWays(way, to, begin, begin, barred, best);
            return best[0] == Integer.MAX_VALUE ? null : best;
        }

        /** Goes every way that comes to no station twice, each link as early as it can be gone. */
        private void tryWays(List<Integer> way, int to, int begin, int now, List<Integer> barred, int[] best) {
            int last = way.get(way.size() - 1);
            if (last == to) {
                int count = way.size() - 1;
                boolean atOnce = open(between(way.get(0), way.get(1)), begin);
                int next = atOnce ? way.get(1) : -1;
                if (now < best[0] || now == best[0] && count < best[1]) {
                    best[0] = now;
                    best[1] = count;
                    best[2] = next;
                } else if (now == best[0] && count == best[1] && next != -1) {
                    best[2] = best[2] == -1 ? next : Math.min(best[2], next);
                }
                return;
            }
            for (Link link : links) {
                int other = link.one == last ? link.other : link.other == last ? link.one : -1;
                if (other == -1 || way.contains(other) || barred.contains(other)) {
                    continue;
                }
                int at = now;
                while (at < begin + 24 && !open(link, at)) {
                    at++;
                }
                if (at < begin + 24) {
                    way.add(other);
                    tryWays(way, to, begin, at + 1, barred, best);
                    way.remove(way.size() - 1);
                }
            }
        }

        int next(Message message, int station) {
            Copy copy = message.copies[station];
            if (copy == null || copy.state != 1) {
                return -1;
            }
            int[] best = best(station, message.to, time, copy.path);
            return best == null ? -1 : best[2];
        }

        List<Integer> toSend(int station) {
            List<Integer> all = new ArrayList<>();
            for (int message = 0; message < messages.size(); message++) {
                Copy copy = messages.get(message).copies[station];
                if (copy != null && copy.since <= time && next(messages.get(message), station) != -1) {
                    all.add(message);
                }
            }
            all.sort((one, other) -> messages.get(other).priority - messages.get(one).priority);
            boolean silent = !onAir(station, time);
            return silent ? List.of() : all.subList(0, Math.min(all.size(), stations.get(station).rate));
        }

        void born(int from, int to, int priority) {
            Message message = new Message();
            message.from = from;
            message.to = to;
            message.priority = priority;
            message.born = time;
            Copy copy = new Copy();
            copy.since = time;
            copy.path.add(from);
            message.copies[from] = copy;
            messages.add(message);
            log(0, messages.size() - 1, from, -1);
        }

        void end(int message, int station, int state, int kind, int other) {
            messages.get(message).copies[station].state = state;
            messages.get(message).end = station;
            messages.get(message).endOther = other;
            log(kind, message, station, other);
        }

        void hour() {
            for (int number = 0; number < messages.size(); number++) {
                Message message = messages.get(number);
                for (int station = 0; station < 8; station++) {
                    Copy copy = message.copies[station];
                    if (copy != null && copy.state == 1 && time - message.born >= life) {
                        end(number, station, 4, 7, -1);
                    }
                }
            }
            for (int station = 0; station < stations.size(); station++) {
                for (int message : new ArrayList<>(toSend(station))) {
                    frame(message, station, next(messages.get(message), station));
                }
            }
            time++;
        }

        private void frame(int number, int from, int to) {
            Message message = messages.get(number);
            Copy copy = message.copies[from];
            Link link = between(from, to);
            link.frames++;
            message.frames++;
            stations.get(from).sent++;
            boolean got = draw() < link.quality;
            boolean known = false;
            if (got) {
                stations.get(to).got++;
                if (message.copies[to] != null) {
                    stations.get(to).doubles++;
                    message.doubles++;
                    log(4, number, to, from);
                } else {
                    Copy there = new Copy();
                    there.path.addAll(copy.path);
                    there.path.add(to);
                    there.since = time + 1;
                    message.copies[to] = there;
                    if (to == message.to) {
                        there.state = 5;
                        stations.get(to).delivered++;
                        log(5, number, to, from);
                    }
                }
                known = draw() < link.quality;
            }
            if (known) {
                copy.state = 2;
                log(1, number, from, to);
                return;
            }
            link.lost += got ? 0 : 1;
            link.unsure += got ? 1 : 0;
            log(got ? 3 : 2, number, from, to);
            copy.tries++;
            if (copy.tries >= tries) {
                end(number, from, 3, 6, to);
            }
        }
    }

    private World world = new World();
    private final World[] saved = new World[2];
    private String text = "";
    /** Whoever only looks at all numbers puts it back afterwards. */
    String output = "";
    private int errorCode = 0;
    private int errorPosition = -1;

    public int appendText(int fourBytes) {
        if (text.length() > 696) {
            throw new IllegalStateException();
        }
        for (int shift = 24; shift >= 0; shift -= 8) {
            text += (char) (fourBytes >>> shift & 255);
        }
        return text.length();
    }

    public int truncateText(int length) {
        argument(0 <= length && length <= text.length());
        text = text.substring(0, length);
        return length;
    }

    private static final class Wrong extends Exception {
        private static final long serialVersionUID = 1;
        final int code;
        final int position;

        Wrong(int code, int position) {
            this.code = code;
            this.position = position;
        }
    }

    public int load() {
        String all = text;
        text = "";
        try {
            World loaded = new World();
            int count = read(all, loaded);
            world = loaded;
            errorCode = 0;
            errorPosition = -1;
            return count;
        } catch (Wrong wrong) {
            errorCode = wrong.code;
            errorPosition = wrong.position;
            return -1;
        }
    }

    /** Each statement is given by its word and the ranges of its numbers; -1 stands for the stations there are. */
    private static int read(String all, World loaded) throws Wrong {
        List<String> tokens = new ArrayList<>();
        List<Integer> places = new ArrayList<>();
        Matcher matcher = Pattern.compile("[a-z]+|[0-9]+|;|[^ \n]").matcher(all);
        while (matcher.find()) {
            tokens.add(matcher.group());
            places.add(matcher.start());
        }
        tokens.add("");
        places.add(all.length());
        int at = 0;
        int count = 0;
        while (!tokens.get(at).isEmpty()) {
            String word = tokens.get(at);
            int[][] ranges = switch (word) {
                case "station" -> new int[][] {{0, 23}, {0, 23}, {1, 9}};
                case "link" -> new int[][] {{0, -1}, {0, -1}, {0, 23}, {0, 23}, {0, 100}};
                case "message" -> new int[][] {{0, -1}, {0, -1}, {0, 3}};
                case "life" -> new int[][] {{1, 200}};
                case "tries" -> new int[][] {{1, 9}};
                case "seed" -> new int[][] {{0, 1000002}};
                default -> throw new Wrong(1, places.get(at));
            };
            if (word.equals("station") && loaded.stations.size() == 8
                    || word.equals("link") && loaded.links.size() == 16
                    || word.equals("message") && loaded.messages.size() == 24) {
                throw new Wrong(3, places.get(at));
            }
            at++;
            int[] numbers = new int[ranges.length];
            for (int index = 0; index < ranges.length; index++, at++) {
                numbers[index] = number(tokens.get(at), ranges[index], places.get(at), loaded.stations.size());
                boolean toItself = index == 1 && ranges[1][1] == -1 && numbers[0] == numbers[1];
                boolean again = index == 1 && word.equals("link") && loaded.between(numbers[0], numbers[1]) != null;
                if (toItself || again) {
                    throw new Wrong(4, places.get(at));
                }
            }
            if (!tokens.get(at).equals(";")) {
                throw new Wrong(1, places.get(at));
            }
            at++;
            count++;
            put(word, numbers, loaded);
        }
        return count;
    }

    private static int number(String token, int[] range, int place, int stations) throws Wrong {
        if (!token.matches("[0-9]+")) {
            throw new Wrong(1, place);
        }
        java.math.BigInteger value = new java.math.BigInteger(token);
        int most = range[1] == -1 ? stations - 1 : range[1];
        if (value.bitLength() > 30 || value.intValue() < range[0] || value.intValue() > most) {
            throw new Wrong(2, place);
        }
        return value.intValue();
    }

    private static void put(String word, int[] numbers, World loaded) {
        switch (word) {
            case "station" -> loaded.stations.add(new Station(numbers[0], numbers[1], numbers[2]));
            case "link" -> loaded.links.add(new Link(numbers[0], numbers[1], numbers[2], numbers[3], numbers[4]));
            case "message" -> loaded.born(numbers[0], numbers[1], numbers[2]);
            case "life" -> loaded.life = numbers[0];
            case "tries" -> loaded.tries = numbers[0];
            default -> loaded.x = numbers[0];
        }
    }

    public int errorCode() {
        return errorCode;
    }

    public int errorPosition() {
        return errorPosition;
    }

    private static void index(boolean right) {
        if (!right) {
            throw new IndexOutOfBoundsException();
        }
    }

    private static void argument(boolean right) {
        if (!right) {
            throw new IllegalArgumentException();
        }
    }

    private static void state(boolean right) {
        if (!right) {
            throw new IllegalStateException();
        }
    }

    private static boolean in(int value, int least, int most) {
        return value >= least && value <= most;
    }

    private void needStation(int station) {
        index(in(station, 0, world.stations.size() - 1));
    }

    private void needMessage(int message) {
        index(in(message, 0, world.messages.size() - 1));
    }

    public int addStation(int from, int to, int rate) {
        argument(in(from, 0, 23) && in(to, 0, 23) && in(rate, 1, 9));
        state(world.stations.size() < 8);
        world.stations.add(new Station(from, to, rate));
        return world.stations.size() - 1;
    }

    public int addLink(int one, int other, int from, int to, int quality) {
        needStation(one);
        needStation(other);
        argument(one != other && in(from, 0, 23) && in(to, 0, 23) && in(quality, 0, 100));
        state(world.between(one, other) == null && world.links.size() < 16);
        world.links.add(new Link(one, other, from, to, quality));
        return world.links.size() - 1;
    }

    public int setStation(int station, int what, int value) {
        needStation(station);
        argument(in(what, 0, 2) && (what == 2 ? in(value, 1, 9) : in(value, 0, 23)));
        Station one = world.stations.get(station);
        int previous = what == 0 ? one.from : what == 1 ? one.to : one.rate;
        one.from = what == 0 ? value : one.from;
        one.to = what == 1 ? value : one.to;
        one.rate = what == 2 ? value : one.rate;
        return previous;
    }

    public int setLink(int link, int what, int value) {
        index(in(link, 0, world.links.size() - 1));
        argument(in(what, 0, 2) && in(value, 0, what == 2 ? 100 : 23));
        Link one = world.links.get(link);
        int previous = what == 0 ? one.from : what == 1 ? one.to : one.quality;
        one.from = what == 0 ? value : one.from;
        one.to = what == 1 ? value : one.to;
        one.quality = what == 2 ? value : one.quality;
        return previous;
    }

    public void setRules(int life, int tries, int seed) {
        argument(in(life, 1, 200) && in(tries, 1, 9) && in(seed, 0, 1000002));
        world.life = life;
        world.tries = tries;
        world.x = seed;
    }

    public int station(int station, int what) {
        needStation(station);
        argument(in(what, 0, 9));
        Station one = world.stations.get(station);
        int waiting = 0;
        for (Message message : world.messages) {
            waiting += message.copies[station] != null && message.copies[station].state == 1 ? 1 : 0;
        }
        int links = 0;
        for (Link link : world.links) {
            links += link.one == station || link.other == station ? 1 : 0;
        }
        return new int[] {one.from, one.to, one.rate, world.onAir(station, world.time) ? 1 : 0, waiting, one.sent,
            one.got, one.doubles, one.delivered, links}[what];
    }

    public int link(int link, int what) {
        index(in(link, 0, world.links.size() - 1));
        argument(in(what, 0, 8));
        Link one = world.links.get(link);
        return new int[] {one.one, one.other, one.from, one.to, one.quality, world.open(one, world.time) ? 1 : 0,
            one.frames, one.lost, one.unsure}[what];
    }

    public int count(int what) {
        argument(in(what, 0, 13));
        int[] states = new int[3];
        int waiting = 0;
        for (Message message : world.messages) {
            states[message.state()]++;
            waiting += message.waiting();
        }
        int sent = 0;
        int doubles = 0;
        for (Station station : world.stations) {
            sent += station.sent;
            doubles += station.doubles;
        }
        return new int[] {world.stations.size(), world.links.size(), world.messages.size(), world.time, world.life,
            world.tries, (int) world.x, states[0], states[1], states[2], waiting, sent, doubles,
            world.events.size()}[what];
    }

    public int way(int from, int to, int time, int what) {
        needStation(from);
        needStation(to);
        argument(from != to && in(time, 0, 100000) && in(what, 0, 2));
        int[] best = world.best(from, to, time, List.of());
        return best == null ? -1 : best[what];
    }

    private int pairs(List<Integer> without) {
        int pairs = 0;
        for (int from = 0; from < world.stations.size(); from++) {
            for (int to = 0; to < world.stations.size(); to++) {
                if (from != to && !without.contains(from) && !without.contains(to)
                        && world.best(from, to, world.time, without) != null) {
                    pairs++;
                }
            }
        }
        return pairs;
    }

    public int reachable() {
        return pairs(List.of());
    }

    public int keyStation() {
        int[] pairs = new int[world.stations.size()];
        for (int station = 0; station < pairs.length; station++) {
            pairs[station] = pairs(List.of(station));
        }
        int least = Arrays.stream(pairs).min().orElse(-1);
        for (int station = 0; station < pairs.length; station++) {
            if (pairs[station] == least) {
                return station;
            }
        }
        return -1;
    }

    public int send(int from, int to, int priority) {
        needStation(from);
        needStation(to);
        argument(from != to && in(priority, 0, 3));
        state(world.messages.size() < 24);
        world.born(from, to, priority);
        return world.messages.size() - 1;
    }

    public int setPriority(int message, int priority) {
        needMessage(message);
        argument(in(priority, 0, 3));
        int previous = world.messages.get(message).priority;
        world.messages.get(message).priority = priority;
        return previous;
    }

    public int takeBack(int message) {
        needMessage(message);
        int count = 0;
        for (int station = 0; station < 8; station++) {
            Copy copy = world.messages.get(message).copies[station];
            if (copy != null && copy.state == 1) {
                world.end(message, station, 3, 8, -1);
                count++;
            }
        }
        return count;
    }

    public int message(int message, int what) {
        needMessage(message);
        argument(in(what, 0, 11));
        Message one = world.messages.get(message);
        Copy copy = one.copies[one.to];
        boolean delivered = one.state() == 1;
        return new int[] {one.from, one.to, one.priority, one.born, one.state(), delivered ? copy.since : -1,
            delivered ? copy.path.size() - 1 : -1, one.frames, one.doubles, one.waiting(), one.end,
            one.endOther}[what];
    }

    public int copy(int message, int station, int what) {
        needMessage(message);
        needStation(station);
        argument(in(what, 0, 4));
        Copy copy = world.messages.get(message).copies[station];
        if (copy == null) {
            return what == 0 ? 0 : -1;
        }
        return new int[] {copy.state, copy.tries, copy.since, copy.path.size(),
            what == 4 ? world.next(world.messages.get(message), station) : 0}[what];
    }

    public int path(int message, int station, int index) {
        needMessage(message);
        needStation(station);
        Copy copy = world.messages.get(message).copies[station];
        index(copy != null && in(index, 0, copy.path.size() - 1));
        return copy.path.get(index);
    }

    public int sends(int station, int index) {
        needStation(station);
        index(index >= 0);
        List<Integer> all = world.toSend(station);
        return index < all.size() ? all.get(index) : -1;
    }

    public int run(int hours) {
        argument(in(hours, 1, 72));
        int before = count(8);
        for (int hour = 0; hour < hours; hour++) {
            world.hour();
        }
        return count(8) - before;
    }

    public int stateAfter(int message, int hours) {
        needMessage(message);
        argument(in(hours, 1, 72));
        World later = world.twin();
        for (int hour = 0; hour < hours; hour++) {
            later.hour();
        }
        return later.messages.get(message).state();
    }

    public int hoursTo(int many) {
        argument(in(many, 1, 24));
        World later = world.twin();
        for (int hours = 0; ; hours++) {
            int delivered = 0;
            for (Message message : later.messages) {
                delivered += message.state() == 1 ? 1 : 0;
            }
            if (delivered >= many) {
                return hours;
            }
            if (hours == 72) {
                return -1;
            }
            later.hour();
        }
    }

    public double meanHours() {
        double sum = 0;
        double number = 0;
        for (Message message : world.messages) {
            if (message.state() == 1) {
                sum += message.copies[message.to].since - message.born;
                number++;
            }
        }
        return number == 0 ? -1.0 : sum / number;
    }

    public float lossRate() {
        int lost = 0;
        int frames = 0;
        for (Link link : world.links) {
            lost += link.lost + link.unsure;
            frames += link.frames;
        }
        return frames == 0 ? 0 : (float) lost / (float) frames;
    }

    public int event(int event, int what) {
        index(in(event, 0, world.events.size() - 1));
        argument(in(what, 0, 4));
        return world.events.get(event)[what];
    }

    public int write(int event) {
        index(in(event, 0, world.events.size() - 1));
        int[] one = world.events.get(event);
        output = one[0] + " m" + one[2] + " " + one[3] + (one[4] == -1 ? "" : ">" + one[4]) + " " + WORDS[one[1]];
        return output.length();
    }

    public int output(int index) {
        return in(index, 0, output.length() - 1) ? output.charAt(index) : -1;
    }

    public void save(int slot) {
        argument(in(slot, 0, 1));
        saved[slot] = world.twin();
    }

    public void restore(int slot) {
        argument(in(slot, 0, 1));
        state(saved[slot] != null);
        world = saved[slot].twin();
    }
}
