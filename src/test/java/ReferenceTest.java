import java.lang.reflect.InvocationTargetException;
import java.lang.reflect.Method;
import java.util.ArrayList;
import java.util.Comparator;
import java.util.List;
import java.util.Random;

/**
 * Random runs of at most 512 calls on ReliefNet and on ReferenceNet, which must answer alike; the seeds are fixed.
 * To look at all numbers takes more calls than that, so each part of a look is taken at a new net, on which all calls
 * of the run are made again.
 */
final class ReferenceTest {
    private static final int RUNS = 60;
    private static final int CALLS = 512;

    private record Call(String name, Object[] arguments) {
    }

    private final Random random;
    private final List<Method> methods = new ArrayList<>();
    private ReliefNet net = new ReliefNet();
    private ReferenceNet reference = new ReferenceNet();
    private List<Call> history = new ArrayList<>();

    private ReferenceTest(long seed) {
        random = new Random(seed);
        for (Method method : ReliefNet.class.getDeclaredMethods()) {
            if (java.lang.reflect.Modifier.isPublic(method.getModifiers())) {
                methods.add(method);
            }
        }
        methods.sort(Comparator.comparing(Method::getName));
    }

    static void run(Check check) {
        for (int seed = 0; seed < RUNS; seed++) {
            int run = seed;
            check.test("random run of calls " + run, () -> new ReferenceTest(run).calls());
        }
        for (int seed = 0; seed < RUNS; seed++) {
            int run = seed;
            check.test("random texts " + run, () -> new ReferenceTest(run).texts());
        }
        for (int seed = 0; seed < RUNS; seed++) {
            int run = seed;
            check.test("random traffic " + run, () -> new ReferenceTest(run).traffic());
        }
    }

    /** Random calls, mostly with arguments that fit. */
    private void calls() throws Exception {
        boolean wide = random.nextInt(3) == 0;
        build(wide);
        randomCalls(CALLS * 2 / 3);
        look();
        randomCalls(CALLS);
    }

    private void randomCalls(int many) throws Exception {
        while (history.size() < many) {
            Method method = methods.get(random.nextInt(methods.size()));
            String name = method.getName();
            if (name.equals("load") && random.nextInt(8) != 0 || name.equals("truncateText") && random.nextBoolean()) {
                continue;
            }
            Object[] arguments = new Object[method.getParameterCount()];
            for (int index = 0; index < arguments.length; index++) {
                arguments[index] = argument(name, index);
            }
            same(name, arguments);
        }
    }

    private int argument(String name, int index) {
        if (random.nextInt(40) == 0) {
            int[] odd = {-1, 24, 100, 101, Integer.MIN_VALUE, Integer.MAX_VALUE, 1000003, 9, 40};
            return odd[random.nextInt(odd.length)];
        }
        if (name.equals("appendText")) {
            return 0x20202020 + random.nextInt(3);
        }
        if (name.equals("run") || name.equals("stateAfter") && index == 1) {
            return 1 + random.nextInt(random.nextInt(5) == 0 ? 72 : 4);
        }
        if (name.equals("way") && index == 2) {
            return random.nextInt(60);
        }
        if (name.equals("setRules")) {
            return random.nextInt(index == 0 ? 202 : index == 1 ? 11 : 1000004);
        }
        if (name.startsWith("add") && index >= 2 || name.equals("setLink") && index == 2) {
            return random.nextInt(random.nextBoolean() ? 10 : 101);
        }
        boolean event = name.equals("event") || name.equals("write") || name.equals("output");
        boolean message = index == 0 && (name.equals("message") || name.equals("copy") || name.equals("path")
                || name.equals("stateAfter") || name.equals("setPriority") || name.equals("takeBack"));
        if (event && index == 0) {
            return random.nextInt(41);
        }
        if (message && reference.count(2) > 0) {
            return random.nextInt(reference.count(2) + 1);
        }
        return random.nextInt(index == 0 ? 9 : random.nextBoolean() ? 4 : 12);
    }

    /** A net with many links, most of them for many hours, so that ways are often the same in length. */
    private void build(boolean wide) throws Exception {
        int stations = 3 + random.nextInt(6);
        for (int station = 0; station < stations; station++) {
            int[] hours = hours(wide);
            same("addStation", hours[0], hours[1], 1 + random.nextInt(9));
        }
        int links = stations + random.nextInt(17 - stations);
        for (int link = 0; link < links; link++) {
            int[] hours = hours(random.nextBoolean());
            int quality = random.nextInt(4) == 0 ? random.nextInt(101) : 30 + random.nextInt(71);
            same("addLink", random.nextInt(stations), random.nextInt(stations), hours[0], hours[1], quality);
        }
        same("setRules", 1 + random.nextInt(100), 1 + random.nextInt(9), random.nextInt(1000003));
    }

    private int[] hours(boolean wide) {
        if (wide) {
            return new int[] {0, 23};
        }
        int from = random.nextInt(24);
        return new int[] {from, (from + random.nextInt(24)) % 24};
    }

    private void traffic() throws Exception {
        build(random.nextBoolean());
        int stations = reference.count(0);
        for (int step = 0; step < 20; step++) {
            int kind = random.nextInt(10);
            if (kind < 4) {
                same("send", random.nextInt(stations), random.nextInt(stations), random.nextInt(4));
            } else if (kind == 4 && reference.count(1) > 0) {
                same("setLink", random.nextInt(reference.count(1)), 2, random.nextInt(101));
            } else if (kind == 5) {
                same("hoursTo", 1 + random.nextInt(12));
            } else if (kind == 6 && reference.count(2) > 0) {
                same("stateAfter", random.nextInt(reference.count(2)), 1 + random.nextInt(72));
            } else {
                same("run", 1 + random.nextInt(5));
                look();
            }
        }
    }

    private void texts() throws Exception {
        for (int text = 0; text < 60; text++) {
            if (text % 2 == 0) {
                net = new ReliefNet();
                reference = new ReferenceNet();
                history = new ArrayList<>();
            }
            String setup = setup();
            if (random.nextInt(3) != 0) {
                setup = spoiled(setup);
            }
            setup = setup.substring(0, Math.min(setup.length(), 696));
            for (int at = 0; at < setup.length(); at += 4) {
                int four = 0;
                for (int index = at; index < at + 4; index++) {
                    four = four << 8 | (index < setup.length() ? setup.charAt(index) & 255 : ' ');
                }
                same("appendText", four);
            }
            same("truncateText", setup.length());
            same("load");
            same("errorCode");
            same("errorPosition");
            look();
        }
    }

    private String setup() {
        StringBuilder all = new StringBuilder();
        int stations = random.nextInt(11);
        for (int station = 0; station < stations; station++) {
            all.append(words("station", random.nextInt(24), random.nextInt(24), 1 + random.nextInt(9)));
        }
        int most = Math.max(1, Math.min(8, stations));
        int statements = random.nextInt(30);
        for (int statement = 0; statement < statements; statement++) {
            int one = random.nextInt(most);
            int other = random.nextInt(30) == 0 ? one : (one + 1 + random.nextInt(Math.max(1, most - 1))) % most;
            switch (random.nextInt(9)) {
                case 0 -> all.append(words("life", 1 + random.nextInt(200)));
                case 1 -> all.append(words("tries", 1 + random.nextInt(9)));
                case 2 -> all.append(words("seed", random.nextInt(1000003)));
                case 3, 4, 5 -> all.append(words("message", one, other, random.nextInt(4)));
                default -> all.append(
                        words("link", one, other, random.nextInt(24), random.nextInt(24), random.nextInt(101)));
            }
        }
        return all.toString();
    }

    private String words(String word, int... numbers) {
        StringBuilder all = new StringBuilder(word);
        for (int index = 0; index < numbers.length; index++) {
            all.append(index == 0 && random.nextBoolean() ? "" : random.nextInt(9) == 0 ? " \n " : " ");
            all.append(random.nextInt(20) == 0 ? "000000000000" : "").append(numbers[index]);
        }
        return all.append(random.nextInt(5) == 0 ? " ;\n" : ";").toString();
    }

    private String spoiled(String setup) {
        StringBuilder all = new StringBuilder(setup);
        String[] odd = {" ", ";", "5", "99", "1234567890123", "life", "x", "#", "\t", "\n", "-", "link", "\u00e9",
            "\0"};
        for (int times = 1 + random.nextInt(2); times > 0 && all.length() > 0; times--) {
            int at = random.nextInt(all.length());
            switch (random.nextInt(4)) {
                case 0 -> all.deleteCharAt(at);
                case 1 -> all.setLength(at);
                case 2 -> all.setCharAt(at, odd[random.nextInt(odd.length)].charAt(0));
                default -> all.insert(at, odd[random.nextInt(odd.length)]);
            }
        }
        return all.toString();
    }

    /** Everything that the face tells, of new nets that have come as far as this one. */
    private void look() throws Exception {
        String output = reference.output;
        List<Call> part = new ArrayList<>();
        for (List<Call> group : groups()) {
            if (history.size() + part.size() + group.size() > CALLS) {
                ask(part);
                part.clear();
            }
            part.addAll(group);
        }
        ask(part);
        reference.output = output;
    }

    private void ask(List<Call> questions) throws Exception {
        ReliefNet again = new ReliefNet();
        for (Call call : history) {
            answer(again, call);
        }
        for (Call question : questions) {
            compare(question, answer(reference, question), answer(again, question));
        }
    }

    /** Calls that belong together, since an output is told only behind its write. */
    private List<List<Call>> groups() {
        List<List<Call>> all = new ArrayList<>();
        all.add(numbers("count", 14));
        for (int station = 0; station < reference.count(0); station++) {
            all.add(numbers("station", 10, station));
            all.add(numbers("sends", 10, station));
            for (int other = 0; other < reference.count(0); other++) {
                all.add(numbers("way", 3, station, other, reference.count(3)));
            }
        }
        for (int link = 0; link < reference.count(1); link++) {
            all.add(numbers("link", 9, link));
        }
        for (int message = 0; message < reference.count(2); message++) {
            all.add(numbers("message", 12, message));
            for (int station = 0; station < reference.count(0); station++) {
                all.add(numbers("copy", 5, message, station));
                all.add(numbers("path", Math.max(0, reference.copy(message, station, 3)), message, station));
            }
        }
        for (int event = 0; event < reference.count(13); event++) {
            List<Call> written = numbers("output", 24);
            written.add(0, new Call("write", new Object[] {event}));
            all.add(written);
            all.add(numbers("event", 5, event));
        }
        for (String name : new String[] {"reachable", "keyStation", "meanHours", "lossRate"}) {
            all.add(List.of(new Call(name, new Object[0])));
        }
        return all;
    }

    /** A call for each last argument below a bound. */
    private static List<Call> numbers(String name, int bound, Object... first) {
        List<Call> all = new ArrayList<>();
        for (int last = 0; last < bound; last++) {
            Object[] arguments = java.util.Arrays.copyOf(first, first.length + 1);
            arguments[first.length] = last;
            all.add(new Call(name, arguments));
        }
        return all;
    }

    private void same(String name, Object... arguments) throws Exception {
        Call call = new Call(name, arguments);
        history.add(call);
        compare(call, answer(reference, call), answer(net, call));
    }

    private void compare(Call call, String due, String got) {
        if (!due.equals(got)) {
            throw new AssertionError("behind " + history.size() + " calls " + call.name()
                    + List.of(call.arguments()) + ": due " + due + ", got " + got);
        }
    }

    private static String answer(Object object, Call call) throws Exception {
        Class<?>[] types = new Class<?>[call.arguments().length];
        java.util.Arrays.fill(types, int.class);
        try {
            return String.valueOf(object.getClass().getMethod(call.name(), types).invoke(object, call.arguments()));
        } catch (InvocationTargetException thrown) {
            return "throws " + thrown.getCause().getClass().getName();
        }
    }
}
