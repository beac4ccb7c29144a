import java.lang.reflect.InvocationTargetException;
import java.lang.reflect.Method;
import java.util.ArrayList;
import java.util.Comparator;
import java.util.List;
import java.util.Random;

/** Random runs of at most 512 calls on ReliefNet and on ReferenceNet, which must answer alike; the seeds are fixed. */
final class ReferenceTest {
    private static final int RUNS = 60;
    private static final int CALLS = 512;

    private final Random random;
    private final ReliefNet net = new ReliefNet();
    private final ReferenceNet reference = new ReferenceNet();
    private final List<Method> methods = new ArrayList<>();
    private int calls = 0;

    private ReferenceTest(long seed) {
        random = new Random(seed);
        for (Method method : ReliefNet.class.getDeclaredMethods()) {
            if (java.lang.reflect.Modifier.isPublic(method.getModifiers())) {
                methods.add(method);
            }
        }
        methods.sort(Comparator.comparing(Method::getName));
    }

    static void run(Check check) {
        for (int seed = 0; seed < RUNS; seed++) {
            int run = seed;
            check.test("random run of calls " + run, () -> new ReferenceTest(run).calls(CALLS));
        }
        for (int seed = 0; seed < RUNS; seed++) {
            int run = seed;
            check.test("random texts " + run, () -> new ReferenceTest(run).texts());
        }
        for (int seed = 0; seed < RUNS; seed++) {
            int run = seed;
            check.test("random traffic " + run, () -> new ReferenceTest(run).traffic());
        }
    }

    /** Random calls, mostly with arguments that fit. */
    private void calls(int many) throws Exception {
        boolean wide = random.nextInt(3) == 0;
        build(wide);
        while (calls < many) {
            Method method = methods.get(random.nextInt(methods.size()));
            String name = method.getName();
            if (name.equals("load") && random.nextInt(8) != 0 || name.equals("truncateText") && random.nextBoolean()) {
                continue;
            }
            Object[] arguments = new Object[method.getParameterCount()];
            for (int index = 0; index < arguments.length; index++) {
                arguments[index] = argument(name, index);
            }
            same(name, arguments);
        }
        allNumbers();
    }

    private int argument(String name, int index) {
        if (random.nextInt(40) == 0) {
            int[] odd = {-1, 24, 100, 101, Integer.MIN_VALUE, Integer.MAX_VALUE, 1000003, 9, 40};
            return odd[random.nextInt(odd.length)];
        }
        if (name.equals("appendText")) {
            return 0x20202020 + random.nextInt(3);
        }
        if (name.equals("run") || name.equals("stateAfter") && index == 1) {
            return 1 + random.nextInt(random.nextInt(5) == 0 ? 72 : 4);
        }
        if (name.equals("way") && index == 2) {
            return random.nextInt(60);
        }
        if (name.equals("setRules")) {
            return random.nextInt(index == 0 ? 202 : index == 1 ? 11 : 1000004);
        }
        if (name.startsWith("add") && index >= 2 || name.equals("setLink") && index == 2) {
            return random.nextInt(random.nextBoolean() ? 10 : 101);
        }
        boolean event = name.equals("event") || name.equals("write") || name.equals("output");
        boolean message = index == 0 && (name.equals("message") || name.equals("copy") || name.equals("path")
                || name.equals("stateAfter") || name.equals("setPriority") || name.equals("takeBack"));
        if (event && index == 0) {
            return random.nextInt(41);
        }
        if (message && net.count(2) > 0) {
            return random.nextInt(net.count(2) + 1);
        }
        return random.nextInt(index == 0 ? 9 : random.nextBoolean() ? 4 : 12);
    }

    /** A net with many links, most of them for many hours, so that ways are often the same in length. */
    private void build(boolean wide) throws Exception {
        int stations = 3 + random.nextInt(6);
        for (int station = 0; station < stations; station++) {
            int[] hours = hours(wide);
            same("addStation", hours[0], hours[1], 1 + random.nextInt(9));
        }
        int links = stations + random.nextInt(17 - stations);
        for (int link = 0; link < links; link++) {
            int[] hours = hours(random.nextBoolean());
            int quality = random.nextInt(4) == 0 ? random.nextInt(101) : 30 + random.nextInt(71);
            same("addLink", random.nextInt(stations), random.nextInt(stations), hours[0], hours[1], quality);
        }
        same("setRules", 1 + random.nextInt(100), 1 + random.nextInt(9), random.nextInt(1000003));
    }

    private int[] hours(boolean wide) {
        if (wide) {
            return new int[] {0, 23};
        }
        int from = random.nextInt(24);
        return new int[] {from, (from + random.nextInt(24)) % 24};
    }

    private void traffic() throws Exception {
        build(random.nextBoolean());
        int stations = net.count(0);
        while (calls < 200) {
            int kind = random.nextInt(10);
            if (kind < 4) {
                same("send", random.nextInt(stations), random.nextInt(stations), random.nextInt(4));
            } else if (kind == 4 && net.count(1) > 0) {
                same("setLink", random.nextInt(net.count(1)), 2, random.nextInt(101));
            } else if (kind == 5) {
                same("hoursTo", 1 + random.nextInt(12));
            } else if (kind == 6 && net.count(2) > 0) {
                same("stateAfter", random.nextInt(net.count(2)), 1 + random.nextInt(72));
            } else {
                same("run", 1 + random.nextInt(5));
                allNumbers();
                calls -= 1;
            }
            calls += 10;
        }
    }

    private void texts() throws Exception {
        for (int text = 0; text < 60; text++) {
            String setup = setup();
            if (random.nextInt(3) != 0) {
                setup = spoiled(setup);
            }
            setup = setup.substring(0, Math.min(setup.length(), 696));
            for (int at = 0; at < setup.length(); at += 4) {
                int four = 0;
                for (int index = at; index < at + 4; index++) {
                    four = four << 8 | (index < setup.length() ? setup.charAt(index) & 255 : ' ');
                }
                same("appendText", four);
            }
            same("truncateText", setup.length());
            same("load");
            same("errorCode");
            same("errorPosition");
            allNumbers();
        }
    }

    private String setup() {
        StringBuilder all = new StringBuilder();
        int stations = random.nextInt(11);
        for (int station = 0; station < stations; station++) {
            all.append(words("station", random.nextInt(24), random.nextInt(24), 1 + random.nextInt(9)));
        }
        int most = Math.max(1, Math.min(8, stations));
        int statements = random.nextInt(30);
        for (int statement = 0; statement < statements; statement++) {
            int one = random.nextInt(most);
            int other = random.nextInt(30) == 0 ? one : (one + 1 + random.nextInt(Math.max(1, most - 1))) % most;
            switch (random.nextInt(9)) {
                case 0 -> all.append(words("life", 1 + random.nextInt(200)));
                case 1 -> all.append(words("tries", 1 + random.nextInt(9)));
                case 2 -> all.append(words("seed", random.nextInt(1000003)));
                case 3, 4, 5 -> all.append(words("message", one, other, random.nextInt(4)));
                default -> all.append(
                        words("link", one, other, random.nextInt(24), random.nextInt(24), random.nextInt(101)));
            }
        }
        return all.toString();
    }

    private String words(String word, int... numbers) {
        StringBuilder all = new StringBuilder(word);
        for (int index = 0; index < numbers.length; index++) {
            all.append(index == 0 && random.nextBoolean() ? "" : random.nextInt(9) == 0 ? " \n " : " ");
            all.append(random.nextInt(20) == 0 ? "000000000000" : "").append(numbers[index]);
        }
        return all.append(random.nextInt(5) == 0 ? " ;\n" : ";").toString();
    }

    private String spoiled(String setup) {
        StringBuilder all = new StringBuilder(setup);
        String[] odd = {" ", ";", "5", "99", "1234567890123", "life", "x", "#", "\t", "\n", "-", "link", "\u00e9", "\0"};
        for (int times = 1 + random.nextInt(2); times > 0 && all.length() > 0; times--) {
            int at = random.nextInt(all.length());
            switch (random.nextInt(4)) {
                case 0 -> all.deleteCharAt(at);
                case 1 -> all.setLength(at);
                case 2 -> all.setCharAt(at, odd[random.nextInt(odd.length)].charAt(0));
                default -> all.insert(at, odd[random.nextInt(odd.length)]);
            }
        }
        return all.toString();
    }

    /** Everything that the face tells; these calls are not counted, since they change nothing. */
    private void allNumbers() throws Exception {
        int before = calls;
        for (int what = 0; what <= 13; what++) {
            same("count", what);
        }
        for (int station = 0; station < net.count(0); station++) {
            for (int what = 0; what <= 9; what++) {
                same("station", station, what);
            }
            for (int index = 0; index < 10; index++) {
                same("sends", station, index);
            }
            for (int other = 0; other < net.count(0); other++) {
                for (int what = 0; what <= 2; what++) {
                    same("way", station, other, net.count(3), what);
                }
            }
        }
        for (int link = 0; link < net.count(1); link++) {
            for (int what = 0; what <= 8; what++) {
                same("link", link, what);
            }
        }
        for (int message = 0; message < net.count(2); message++) {
            for (int what = 0; what <= 11; what++) {
                same("message", message, what);
            }
            for (int station = 0; station < net.count(0); station++) {
                for (int what = 0; what <= 4; what++) {
                    same("copy", message, station, what);
                }
                for (int index = 0; index < net.copy(message, station, 3); index++) {
                    same("path", message, station, index);
                }
            }
        }
        for (int event = 0; event < net.count(13); event++) {
            same("write", event);
            for (int index = 0; index < 24; index++) {
                same("output", index);
            }
            for (int what = 0; what <= 4; what++) {
                same("event", event, what);
            }
        }
        same("reachable");
        same("keyStation");
        same("meanHours");
        same("lossRate");
        calls = before;
    }

    private void same(String name, Object... arguments) throws Exception {
        calls++;
        String due = answer(reference, name, arguments);
        String got = answer(net, name, arguments);
        if (!due.equals(got)) {
            throw new AssertionError("call " + calls + " " + name + List.of(arguments) + ": due " + due + ", got " + got);
        }
    }

    private static String answer(Object object, String name, Object... arguments) throws Exception {
        Class<?>[] types = new Class<?>[arguments.length];
        java.util.Arrays.fill(types, int.class);
        try {
            return String.valueOf(object.getClass().getMethod(name, types).invoke(object, arguments));
        } catch (InvocationTargetException thrown) {
            return "throws " + thrown.getCause().getClass().getName();
        }
    }
}
