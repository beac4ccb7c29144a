import java.lang.reflect.Field;
import java.lang.reflect.Method;
import java.lang.reflect.Modifier;
import java.util.ArrayList;
import java.util.List;
import java.util.Set;
import java.util.TreeSet;
import java.util.regex.Matcher;
import java.util.regex.Pattern;

/** What the document says of the whole: its face, the number of calls, and exceptions. */
final class FaceSentences {
    private static final Pattern METHOD = Pattern.compile("public ((?!static)[a-z]+ [a-zA-Z]+\\([^)]*\\)[^;]*);");

    private FaceSentences() {
    }

    static void run(Sentences doc, Document document) {
        calls(doc);
        face(doc, document);
        signatures(doc, document);
        exceptions(doc);
        doc.section("Not promised");
        doc.plain(document.text("Not promised"));
    }

    private static void calls(Sentences doc) {
        doc.section("Title");
        doc.plain("# ReliefNet");
        doc.section("What it is");
        doc.plain("A relief radio net: stations that are on the air by hours, links that are open in windows of "
                + "propagation, messages that are sent from station to station by priorities along ways that arrive "
                + "earliest, frames and acknowledgements that can be lost, repeats, duplicates that are found, "
                + "messages that are delivered once, or listed with the hop where they ended; a log of what happened, "
                + "and predictions.",
                "what later calls answer is free.");
        doc.says("An object is used for at most 512 calls after it has been made;", () -> {
            // Four calls make the net, the 512th one is the last that has to be answered.
            ReliefNet net = Nets.row(2, 1, 100);
            net.send(0, 1, 0);
            Check.equal(1, net.run(72));
            for (int call = 6; call <= 511; call++) {
                Check.equal(0, net.run(72));
            }
            Check.equal(507 * 72, net.count(3));
        });
    }

    private static void face(Sentences doc, Document document) {
        doc.section("The public face");
        doc.says("public final class ReliefNet {", () -> {
            Check.equal(Modifier.PUBLIC | Modifier.FINAL, ReliefNet.class.getModifiers());
            Check.equal("", ReliefNet.class.getPackageName());
            // Nothing can be seen that the document does not name.
            Check.equal(33, declared().size());
            for (Field field : ReliefNet.class.getDeclaredFields()) {
                Check.equal(field.getName().equals("NONE"), !Modifier.isPrivate(field.getModifiers()));
            }
        });
        doc.says("public static final int NONE = -1;", () -> {
            Check.equal("public static final int ReliefNet.NONE", ReliefNet.class.getField("NONE").toString());
            Check.equal(-1, ReliefNet.NONE);
        });
        doc.says("public ReliefNet();", FaceSentences::oneConstructor);
        Matcher methods = METHOD.matcher(document.text("The public face"));
        while (methods.find()) {
            String due = withoutNames(methods.group(1));
            doc.says(methods.group(), () -> Check.equal(Set.of(due), withName(due)));
        }
        doc.plain("```java");
    }

    private static void oneConstructor() {
        Check.equal(1, ReliefNet.class.getDeclaredConstructors().length);
        Check.equal("public ReliefNet()", ReliefNet.class.getDeclaredConstructors()[0].toString());
    }

    /** The signature with which each promise begins. */
    private static void signatures(Sentences doc, Document document) {
        for (int promise = 1; promise <= 34; promise++) {
            doc.section("Promise " + promise);
            String quote = document.text("Promise " + promise).replaceAll("^(`[^`]*`).*", "$1");
            String due = withoutNames(quote.replace("`", ""));
            if (promise == 1) {
                doc.says(quote, FaceSentences::oneConstructor);
            } else {
                doc.says(quote, () -> Check.equal(Set.of(due), withName(due)));
            }
        }
    }

    /** "int count(int what) throws .." is "int count(int) throws ..". */
    private static String withoutNames(String signature) {
        return signature.replaceAll("(int|double|float) [a-zA-Z]+([,)])", "$1$2");
    }

    /** All methods of the class that bear the name of this one. */
    private static Set<String> withName(String signature) {
        Set<String> all = new TreeSet<>();
        String name = signature.replaceAll("\\(.*", "(");
        for (String one : declared()) {
            if (one.startsWith(name)) {
                all.add(one);
            }
        }
        return all;
    }

    /** The methods that are not private, as the document writes them. */
    private static Set<String> declared() {
        Set<String> all = new TreeSet<>();
        for (Method method : ReliefNet.class.getDeclaredMethods()) {
            if (!Modifier.isPrivate(method.getModifiers()) && !method.isSynthetic()) {
                List<String> types = new ArrayList<>();
                for (Class<?> type : method.getParameterTypes()) {
                    types.add(type.getSimpleName());
                }
                List<String> thrown = new ArrayList<>();
                for (Class<?> type : method.getExceptionTypes()) {
                    thrown.add(type.getSimpleName());
                }
                String modifiers = Modifier.toString(method.getModifiers()).replace("public", "");
                String head = modifiers + method.getReturnType() + " " + method.getName();
                all.add(head + "(" + String.join(", ", types) + ")"
                        + (thrown.isEmpty() ? "" : " throws " + String.join(", ", thrown)));
            }
        }
        return all;
    }

    private static void exceptions(Sentences doc) {
        doc.section("EXCEPTIONS");
        doc.says("A method that throws an exception changes nothing.", () -> {
            Refused.state(Nets::full, net -> net.addStation(0, 0, 1), net -> net.addLink(0, 4, 0, 0, 0),
                    net -> net.addLink(0, 1, 0, 0, 0), net -> net.send(0, 1, 0), net -> net.restore(0));
            Refused.state(FaceSentences::fullText, net -> net.appendText(0x73656564), net -> net.restore(1));
            Refused.argument(Nets::history, net -> net.truncateText(8), net -> net.addStation(0, 0, 0),
                    net -> net.addLink(0, 3, 0, 0, 101), net -> net.setStation(0, 2, 0), net -> net.setLink(0, 2, 101),
                    net -> net.setRules(1, 1, -1), net -> net.station(0, 10), net -> net.link(0, 9),
                    net -> net.count(14), net -> net.way(0, 1, 0, 3), net -> net.send(0, 1, 4),
                    net -> net.setPriority(0, 4), net -> net.message(0, 12), net -> net.copy(0, 0, 5),
                    net -> net.run(73), net -> net.stateAfter(0, 73), net -> net.hoursTo(25), net -> net.event(0, 5),
                    net -> net.save(2), net -> net.restore(2));
            Refused.index(Nets::history, net -> net.addLink(0, 5, 0, 0, 0), net -> net.setStation(5, 0, 0),
                    net -> net.setLink(6, 0, 0), net -> net.station(5, 0), net -> net.link(6, 0),
                    net -> net.way(0, 5, 0, 0), net -> net.send(0, 5, 0), net -> net.setPriority(12, 0),
                    net -> net.takeBack(12), net -> net.message(12, 0), net -> net.copy(12, 0, 0),
                    net -> net.path(12, 0, 0), net -> net.path(0, 0, 8), net -> net.sends(5, 0),
                    net -> net.stateAfter(12, 1), net -> net.event(40, 0), net -> net.write(40));
        });
        doc.says("If several exceptions apply, the one that comes first in the method's list of exceptions is "
                + "thrown.", () -> {
            // Where there are eight stations, sixteen links and twenty-four messages, the last one always applies.
            Refused.argument(Nets::full, net -> net.addStation(24, 0, 1), net -> net.addLink(0, 0, 0, 0, 0),
                    net -> net.addLink(0, 4, 24, 0, 0), net -> net.send(0, 0, 0), net -> net.send(0, 1, 4),
                    net -> net.restore(2));
            Refused.index(Nets::full, net -> net.addLink(8, 8, 24, 24, 101), net -> net.addLink(0, 8, 0, 0, 0),
                    net -> net.setStation(8, 3, 99), net -> net.setLink(16, 3, 999), net -> net.station(8, 10),
                    net -> net.link(16, 9), net -> net.way(8, 8, -1, 3), net -> net.send(8, 8, 4),
                    net -> net.send(8, 0, 0), net -> net.setPriority(24, 4), net -> net.message(24, 12),
                    net -> net.copy(24, 0, 5), net -> net.copy(0, 8, 5), net -> net.stateAfter(24, 73),
                    net -> net.event(40, 5));
        });
        doc.says("- `NONE = -1`: There is none.", () -> Check.equal(-1, ReliefNet.NONE));
        doc.plain("The constants:",
                "The constructor and the methods follow, a promise each: the signature, then what it does.");
    }

    /** Three bytes more would fit. */
    private static ReliefNet fullText() {
        ReliefNet net = Nets.row(2, 1, 100);
        net.send(0, 1, 0);
        net.write(0);
        Nets.append(net, "seed 7;" + " ".repeat(690));
        return net;
    }
}
