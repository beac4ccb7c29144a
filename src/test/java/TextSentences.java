/** What the document says of setup texts, and of the promises 1 to 6. */
final class TextSentences {
    private static final String STATION = "station 0 23 1;";
    private static final String TWO = STATION + STATION;
    /** Eight stations and sixteen links, as short as they can be written. */
    private static final String NET = network();

    private TextSentences() {
    }

    static void run(Sentences doc) {
        text(doc);
        grammar(doc);
        errors(doc);
        newObject(doc);
        appendText(doc);
        truncateText(doc);
        load(doc);
        latestError(doc);
    }

    private static String network() {
        StringBuilder all = new StringBuilder("station0 0 1;".repeat(8));
        for (int link = 0; link < 16; link++) {
            all.append("link").append(link / 4).append(' ').append(4 + link % 4).append(" 0 0 0;");
        }
        return all.toString();
    }

    /** The text is refused with this error. */
    private static void wrong(String text, int code, int position) {
        ReliefNet net = new ReliefNet();
        Check.equal(text + " -1", text + " " + Nets.load(net, text));
        Check.equal(text + " code " + code, text + " code " + net.errorCode());
        Check.equal(text + " at " + position, text + " at " + net.errorPosition());
    }

    /** The text is read, and has so many statements. */
    private static ReliefNet right(String text, int statements) {
        ReliefNet net = new ReliefNet();
        Check.equal(text + " " + statements, text + " " + Nets.load(net, text));
        return net;
    }

    private static void text(Sentences doc) {
        doc.section("SETUP TEXTS");
        doc.says("A setup is an ASCII text that is collected in a text buffer of at most 700 bytes.", () -> {
            Check.equal(5, right(" ".repeat(693) + "seed 5;", 1).count(6));
            wrong(" ".repeat(699) + ";", 1, 699);
            for (int length = 697; length <= 700; length++) {
                ReliefNet full = appended(" ".repeat(length));
                Check.refused(IllegalStateException.class, () -> full.appendText(0x20202020));
                Check.equal(length, Nets.textLength(full));
            }
        });
        doc.says("Its tokens are words (maximal runs of the letters a to z)", TextSentences::words);
        doc.says("numbers (maximal runs of the digits 0 to 9)", TextSentences::numbers);
        doc.says("and the symbol ;.", () -> {
            right("life 1;", 1);
            wrong("life 1:", 1, 6);
            wrong("life 1<", 1, 6);
        });
        doc.says("Spaces (byte 32) and line feeds (byte 10) may stand before, between and behind tokens.",
                TextSentences::blanks);
        doc.says("Numbers may have any number of digits.", TextSentences::longNumbers);
    }

    private static void words() {
        // A letter belongs to the word before it, the bytes beside the letters do not.
        wrong("lifea 1;", 1, 0);
        wrong("lifez 1;", 1, 0);
        wrong("alife 1;", 1, 0);
        wrong("zlife 1;", 1, 0);
        wrong("life` 1;", 1, 4);
        wrong("life{ 1;", 1, 4);
        wrong("lifeA 1;", 1, 4);
        wrong("lifeZ 1;", 1, 4);
        wrong("lifelife 1;", 1, 0);
        right("life1;", 1);
    }

    private static void numbers() {
        Check.equal(10, right("life 10;", 1).count(4));
        Check.equal(190, right("life190;", 1).count(4));
        wrong("life 1/;", 1, 6);
        wrong("life 1:;", 1, 6);
        wrong("life /;", 1, 5);
        wrong("life :;", 1, 5);
        wrong("life 1 9;", 1, 7);
    }

    private static void blanks() {
        Check.equal(12, right(" \n life \n 12 \n ; \n ", 1).count(4));
        Check.equal(12, right("\n\nlife\n12\n;\n\n", 1).count(4));
        Check.equal(12, right("life12;", 1).count(4));
        Check.equal(12, right("life" + " ".repeat(693) + "12;", 1).count(4));
        right(" ".repeat(700), 0);
        right("\n".repeat(700), 0);
        // The bytes beside both, and other blanks, belong to no token.
        for (int sign : new int[] {0, 9, 11, 13, 31, 33, 160}) {
            wrong((char) sign + "life 12;", 1, 0);
            wrong("life" + (char) sign + "12;", 1, 4);
            wrong("life 12;" + (char) sign, 1, 8);
        }
    }

    private static void longNumbers() {
        Check.equal(7, right("life" + "0".repeat(694) + "7;", 1).count(4));
        Check.equal(0, right("seed" + "0".repeat(695) + ";", 1).count(6));
        Check.equal(1000002, right("seed" + "0".repeat(688) + "1000002;", 1).count(6));
        wrong("seed" + "9".repeat(695) + ";", 2, 4);
        wrong("seed" + "0".repeat(688) + "1000003;", 2, 4);
        // As many digits as let an int or a long begin anew at 1.
        wrong("life 4294967297;", 2, 5);
        wrong("life 18446744073709551617;", 2, 5);
        wrong("life 340282366920938463463374607431768211457;", 2, 5);
        wrong("life 100000000000000000000000000000000000001;", 2, 5);
    }

    private static void grammar(Sentences doc) {
        doc.says("setup = { statement \";\" }", () -> {
            right("", 0);
            right("seed 0;", 1);
            right("seed 0;".repeat(100), 100);
            wrong(";", 1, 0);
            wrong("seed 0;;", 1, 7);
            wrong("seed 0", 1, 6);
            wrong("seed 0 seed 0;", 1, 7);
        });
        doc.says("statement = \"station\" FROM TO RATE", () -> {
            ReliefNet net = right("station 0 0 1;station 23 23 9;", 2);
            Check.row(java.util.Arrays.copyOf(Nets.station(net, 0), 3), 0, 0, 1);
            Check.row(java.util.Arrays.copyOf(Nets.station(net, 1), 3), 23, 23, 9);
            needsNumbers("", "station", " 0", 3);
        });
        doc.says("| \"link\" ONE OTHER FROM TO QUALITY", () -> {
            ReliefNet net = right(NET + "life 1;", 25);
            Check.row(java.util.Arrays.copyOf(Nets.link(net, 15), 5), 3, 7, 0, 0, 0);
            net = right(TWO + "link 1 0 23 23 100;", 3);
            Check.row(java.util.Arrays.copyOf(Nets.link(net, 0), 5), 1, 0, 23, 23, 100);
            Check.row(Nets.way(net, 0, 1, 0), 24, 1, -1);
            needsNumbers(TWO, "link 0", " 1", 5);
        });
        doc.says("| \"message\" ONE OTHER PRIORITY", () -> {
            ReliefNet net = right(TWO + "message 0 1 0;message 1 0 3;", 4);
            Check.row(java.util.Arrays.copyOf(Nets.message(net, 0), 3), 0, 1, 0);
            Check.row(java.util.Arrays.copyOf(Nets.message(net, 1), 3), 1, 0, 3);
            needsNumbers(TWO, "message 0", " 1", 3);
        });
        doc.says("| \"life\" LIFE", () -> {
            Check.equal(1, right("life 1;", 1).count(4));
            Check.equal(200, right("life 200;", 1).count(4));
            needsNumbers("", "life", " 1", 1);
        });
        doc.says("| \"tries\" TRIES", () -> {
            Check.equal(1, right("tries 1;", 1).count(5));
            Check.equal(9, right("tries 9;", 1).count(5));
            needsNumbers("", "tries", " 1", 1);
        });
        doc.says("| \"seed\" X", () -> {
            Check.equal(0, right("seed 0;", 1).count(6));
            Check.equal(1000002, right("seed 1000002;", 1).count(6));
            needsNumbers("", "seed", " 1", 1);
        });
        doc.says("ONE and OTHER are numbers of stations that are there already;", () -> {
            right(TWO + "link 0 1 0 0 0;", 3);
            wrong("link 0 1 0 0 0;" + TWO, 2, 5);
            wrong(STATION + "link 0 1 0 0 0;" + STATION, 2, 22);
            wrong("message 0 1 0;" + TWO, 2, 8);
            wrong(STATION + "message 0 1 0;" + STATION, 2, 25);
            right(NET + "message 7 0 0;", 25);
            wrong(NET + "message 8 0 0;", 2, NET.length() + 8);
            wrong(NET + "message 0 8 0;", 2, NET.length() + 10);
        });
        doc.says("X is 0 to 1000002.", () -> {
            Check.equal(0, right("seed 0;", 1).count(6));
            Check.equal(1000002, right("seed 1000002;", 1).count(6));
            wrong("seed 1000003;", 2, 5);
        });
        doc.says("Messages are born at the time 0.", () -> {
            ReliefNet net = Nets.row(2, 1, 100);
            net.run(30);
            Nets.load(net, TWO + "message 0 1 2;message 1 0 2;");
            Check.row(Nets.message(net, 1), 1, 0, 2, 0, 0, -1, -1, 0, 0, 1, -1, -1);
            Check.equal(0, net.copy(1, 1, 2));
            Check.equal("0 m0 0 born; 0 m1 1 born", Nets.log(net));
        });
    }

    /** A statement with one number less, or one more, is wrong where that shows first. */
    private static void needsNumbers(String before, String word, String number, int numbers) {
        int given = word.contains(" ") ? 1 : 0;
        String enough = before + word + number.repeat(numbers - given);
        String less = before + word + number.repeat(numbers - given - 1 > 0 ? numbers - given - 1 : 0);
        String rate = word.equals("station") ? enough.substring(0, enough.length() - 1) + "1" : enough;
        wrong(less, 1, less.length());
        wrong(less + ";", 1, less.length());
        wrong(rate, 1, rate.length());
        wrong(rate + " 1;", 1, rate.length() + 1);
        right(rate + ";", before.length() / STATION.length() + 1);
    }

    private static void errors(Sentences doc) {
        doc.says("Errors in a text: the parser reads the tokens from the first one on and stops at the first token "
                + "that is wrong.", () -> {
            wrong("life 0;tries 0;#", 2, 5);
            wrong("# life 0;", 1, 0);
            wrong("life x 0;", 1, 5);
            wrong(TWO + "link 0 0 99 99 999;", 4, 37);
            wrong(NET + "link 9 9 9 9 9;", 3, NET.length());
            wrong(NET + STATION + "#", 3, NET.length());
        });
        doc.says("The error position is the index of its first byte", () -> {
            wrong("x", 1, 0);
            wrong("  \n life 201 ;", 2, 9);
            wrong("seed 0000099999999999;", 2, 5);
            wrong("seed 0 stations;", 1, 7);
            wrong(" ".repeat(699) + "x", 1, 699);
        });
        doc.says("or the length of the text if the text ends too early.", () -> {
            wrong("seed", 1, 4);
            wrong("seed \n ", 1, 7);
            wrong("seed 1", 1, 6);
            wrong("seed" + " ".repeat(696), 1, 700);
            wrong("seed" + "0".repeat(696), 1, 700);
        });
        doc.says("The error code, of several at one token the least, is 1 if the token is not allowed there", () -> {
            for (String word : new String[] {"station", "link", "message", "life", "tries", "seed"}) {
                // Each letter counts, none may be missing, and none may be more.
                for (int letter = 0; letter < word.length(); letter++) {
                    wrong(" " + word.substring(0, letter) + "x" + word.substring(letter + 1) + " 0", 1, 1);
                    wrong(" " + word.substring(0, letter) + word.substring(letter + 1) + " 0", 1, 1);
                }
                wrong(" " + word + "s 0", 1, 1);
            }
            wrong("5;", 1, 0);
            wrong("life life;", 1, 5);
            wrong("life ;", 1, 5);
            wrong("life 5 5;", 1, 7);
            // The first word of a 9th station where no statement may begin is both 1 and 3.
            wrong(NET + "life station 0 0 1;", 1, NET.length() + 5);
            wrong(NET + "life 1 link 0 1 0 0 0;", 1, NET.length() + 7);
            // So is a number that is out of every range where none may stand.
            wrong("999999999999;", 1, 0);
        });
        doc.says("if a byte belongs to no token", () -> {
            wrong("#", 1, 0);
            wrong("life 5;\t", 1, 7);
            wrong("life " + (char) 255 + ";", 1, 5);
            wrong("life " + (char) 128 + ";", 1, 5);
            wrong("life -5;", 1, 5);
            wrong("life 5" + (char) 0 + ";", 1, 6);
        });
        doc.says(", or if the text ends too early;", () -> {
            wrong(TWO + "link 0", 1, 36);
            wrong(TWO + "link 0 1 0 0 0", 1, 44);
            wrong("life 5;seed", 1, 11);
            // A 9th station is wrong at its word already, also if nothing follows.
            wrong(NET + "station", 3, NET.length());
        });
        doc.says("2 if a number is out of its range;", TextSentences::ranges);
        doc.says("3 for the first word of a 9th station", () -> {
            right(STATION.repeat(8), 8);
            wrong(STATION.repeat(9), 3, 120);
            wrong(STATION.repeat(8) + " station 99 99 99;", 3, 121);
        });
        doc.says(", a 17th link", () -> {
            right(NET, 24);
            wrong(NET + " link 0 1 0 0 0;", 3, NET.length() + 1);
            wrong(NET + "link 0 0 99 99 999;", 3, NET.length());
        });
        doc.says("or a 25th message;", () -> {
            String full = NET + "message0 1 0;".repeat(24);
            ReliefNet net = right(full, 48);
            Check.row(Nets.counts(net), 8, 16, 24, 0, 48, 3, 1, 24, 0, 0, 24, 0, 0, 24);
            wrong(full + "message0 1 0;", 3, full.length());
            wrong(full + "message9 9 9;", 3, full.length());
        });
        doc.says("4 for OTHER if it is ONE", () -> {
            wrong(TWO + "link 0 0 0 0 0;", 4, 37);
            wrong(TWO + "link 1 1 0 0 0;", 4, 37);
            wrong(TWO + "link 0 00 0 0 0;", 4, 37);
            wrong(TWO + "message 1 1 0;", 4, 40);
            // A number that is out of its range is that only.
            wrong(TWO + "link 2 2 0 0 0;", 2, 35);
            wrong(TWO + "link 1 2 0 0 0;", 2, 37);
        });
        doc.says(", or if there is a link between both already (of a link).", () -> {
            String linked = TWO + "link 0 1 0 0 0;";
            wrong(linked + "link 0 1 0 0 0;", 4, 52);
            wrong(linked + "link 1 0 0 0 0;", 4, 52);
            wrong(linked + "link 1 0 24 0 0;", 4, 52);
            right(linked + "message 0 1 0;message 0 1 0;message 1 0 0;", 6);
            right(linked + STATION + "link 0 2 0 0 0;link 2 1 0 0 0;", 6);
            // The links before the load are gone.
            ReliefNet net = Nets.row(2, 1, 100);
            Check.equal(3, Nets.load(net, linked));
        });
    }

    /** Each number of each statement: the first beyond its range, where its largest is allowed. */
    private static void ranges() {
        wrong("station 24 0 1;", 2, 8);
        wrong("station 23 24 1;", 2, 11);
        wrong("station 23 23 10;", 2, 14);
        wrong("station 0 0 0;", 2, 12);
        wrong(TWO + "link 2 0 0 0 0;", 2, 35);
        wrong(TWO + "link 1 2 0 0 0;", 2, 37);
        wrong(TWO + "link 1 0 24 0 0;", 2, 39);
        wrong(TWO + "link 1 0 23 24 0;", 2, 42);
        wrong(TWO + "link 1 0 23 23 101;", 2, 45);
        wrong(TWO + "message 2 0 0;", 2, 38);
        wrong(TWO + "message 1 2 0;", 2, 40);
        wrong(TWO + "message 1 0 4;", 2, 42);
        wrong("life 0;", 2, 5);
        wrong("life 201;", 2, 5);
        wrong("tries 0;", 2, 6);
        wrong("tries 10;", 2, 6);
        wrong("seed 1000003;", 2, 5);
        // Without stations no number is one of them.
        wrong("link 0 0 0 0 0;", 2, 5);
        wrong("message 0 0 0;", 2, 8);
    }

    private static void newObject(Sentences doc) {
        doc.section("Promise 1");
        doc.says("Creates a net without stations at the time 0", () -> {
            ReliefNet net = new ReliefNet();
            Check.row(Nets.counts(net), 0, 0, 0, 0, 48, 3, 1, 0, 0, 0, 0, 0, 0, 0);
            Check.equal(-1.0, net.meanHours());
            Check.equal(0.0f, net.lossRate());
            Check.equal(0, net.reachable());
            Check.equal(ReliefNet.NONE, net.keyStation());
            Check.equal(ReliefNet.NONE, net.hoursTo(1));
            Refused.index(ReliefNet::new, any -> any.station(0, 0), any -> any.link(0, 0), any -> any.message(0, 0),
                    any -> any.event(0, 0));
        });
        doc.says(", with an empty text buffer", () -> {
            Check.refused(IllegalArgumentException.class, () -> new ReliefNet().truncateText(1));
            Check.equal(0, new ReliefNet().truncateText(0));
            Check.equal(4, new ReliefNet().appendText(0));
            Check.equal(0, new ReliefNet().load());
        });
        doc.says(", no output", () -> Check.equal(ReliefNet.NONE, new ReliefNet().output(0)));
        doc.says("and no saved states.", () -> Refused.state(ReliefNet::new, net -> net.restore(0),
                net -> net.restore(1)));
    }

    private static void appendText(Sentences doc) {
        doc.section("Promise 2");
        doc.plain("---- setup texts");
        doc.says("Appends four bytes to the text buffer, the highest byte of the parameter first.", () -> {
            ReliefNet net = new ReliefNet();
            net.appendText(0x73656564);
            net.appendText(0x20343b0a);
            Check.equal(1, net.load());
            Check.equal(4, net.count(6));
        });
        doc.says("- `fourBytes`: the bytes", TextSentences::everyByte);
        doc.says("Returns the length of the text in bytes.", () -> {
            ReliefNet net = new ReliefNet();
            for (int length = 4; length <= 700; length += 4) {
                Check.equal(length, net.appendText(0));
            }
            net.truncateText(1);
            Check.equal(5, net.appendText(-1));
            net.load();
            Check.equal(4, net.appendText(Integer.MIN_VALUE));
        });
        doc.says("Throws `IllegalStateException` if the text would be longer than 700 bytes", () -> {
            for (int length = 697; length <= 700; length++) {
                String text = " ".repeat(length);
                Refused.state(() -> written(text), net -> net.appendText(0x20202020), net -> net.appendText(0));
            }
            Check.equal(700, appended(" ".repeat(696)).appendText(0));
            Check.equal(699, appended(" ".repeat(695)).appendText(0));
        });
    }

    private static ReliefNet appended(String text) {
        ReliefNet net = new ReliefNet();
        Nets.append(net, text);
        return net;
    }

    /** A net with a text and an output. */
    private static ReliefNet written(String text) {
        ReliefNet net = Nets.row(2, 1, 100);
        net.send(0, 1, 0);
        net.write(0);
        Nets.append(net, text);
        return net;
    }

    /** Every byte at every place: only blanks make a setup, every other byte is wrong where it stands. */
    private static void everyByte() {
        for (int place = 0; place < 4; place++) {
            ReliefNet net = new ReliefNet();
            ReliefNet second = new ReliefNet();
            for (int sign = 0; sign < 256; sign++) {
                ReliefNet one = sign % 2 == 0 ? net : second;
                int shift = 24 - 8 * place;
                one.appendText(0x20202020 & ~(255 << shift) | sign << shift);
                boolean blank = sign == 32 || sign == 10;
                Check.equal(blank ? 0 : ReliefNet.NONE, one.load());
                Check.equal(sign + " " + (blank ? -1 : place), sign + " " + one.errorPosition());
                Check.equal(blank ? 0 : 1, one.errorCode());
            }
        }
    }

    private static void truncateText(Sentences doc) {
        doc.section("Promise 3");
        doc.says("Cuts the text to its first bytes.", () -> {
            ReliefNet net = appended("life 123;");
            net.truncateText(6);
            Nets.append(net, "4;");
            Check.equal(1, net.load());
            Check.equal(14, net.count(4));
            // What was cut off is not read.
            for (String text : new String[] {"life 12;", "links;", "life 1 ;", "life 1;;"}) {
                ReliefNet cut = appended(text);
                int length = text.startsWith("links") ? 4 : 6;
                cut.truncateText(length);
                Check.equal(ReliefNet.NONE, cut.load());
                Check.row(new int[] {cut.errorCode(), cut.errorPosition()}, 1, length);
            }
        });
        doc.says("- `length`: the new length, 0 to the present length", () -> {
            Check.equal(0, new ReliefNet().truncateText(0));
            String full = " ".repeat(700);
            Check.equal(700, appended(full).truncateText(700));
            Check.equal(699, appended(full).truncateText(699));
            Check.equal(0, appended(full).truncateText(0));
            Check.equal(1, appended("12345").truncateText(1));
            Check.equal(5, appended("12345").truncateText(5));
            Refused.argumentBeyond(() -> appended("12345"), 0, 5, ReliefNet::truncateText);
        });
        doc.says("Returns the new length.", () -> {
            ReliefNet net = appended(" ".repeat(200));
            for (int length = 200; length >= 0; length--) {
                Check.equal(length, net.truncateText(length));
            }
        });
        doc.says("Throws `IllegalArgumentException` if length is out of range", () -> {
            for (int length : new int[] {1, 5, 699, 700}) {
                String text = " ".repeat(length);
                Refused.argumentBeyond(() -> written(text), 0, length, ReliefNet::truncateText);
            }
            for (int length : new int[] {-1, 1, Integer.MIN_VALUE, Integer.MAX_VALUE}) {
                ReliefNet empty = new ReliefNet();
                Check.refused(IllegalArgumentException.class, () -> empty.truncateText(length));
                Check.equal(4, empty.appendText(0));
            }
            // What has been cut is not there any longer.
            Refused.argument(() -> {
                ReliefNet net = appended("12345");
                net.truncateText(4);
                return net;
            }, net -> net.truncateText(5));
        });
    }

    private static void load(Sentences doc) {
        doc.section("Promise 4");
        doc.says("Reads the text as a setup, which replaces everything except the output and saved states;", () -> {
            String text = "station 1 2 3;station 4 5 6;link 1 0 7 8 9;message 0 1 2;life 3;tries 4;seed 5;";
            Check.equal(Picture.ofSaved(() -> Nets.loaded(text)), Picture.ofSaved(() -> loadedOver(text)));
            ReliefNet net = loadedOver(text);
            Check.row(Nets.counts(net), 2, 1, 1, 0, 3, 4, 5, 1, 0, 0, 1, 0, 0, 1);
            Check.equal(1, net.station(0, 9));
            Check.row(Nets.way(net, 0, 1, 0), -1, -1, -1);
            Check.row(Nets.way(loadedOver(TWO + "link 0 1 4 5 6;"), 0, 1, 3), 5, 1, -1);
            Check.equal(Nets.output(Nets.history()), Nets.output(loadedOver(text)));
            Check.equal(Picture.ofSaved(() -> restored(Nets.history())),
                    Picture.ofSaved(() -> restored(loadedOver(text))));
            Refused.state(() -> loadedOver(text), any -> any.restore(1));
        });
        doc.says("what it does not set is as at first.", () -> {
            Check.equal(Picture.ofSaved(ReliefNet::new), Picture.ofSaved(() -> loadedOver("")));
            Check.row(Nets.counts(loadedOver("life 7;")), 0, 0, 0, 0, 7, 3, 1, 0, 0, 0, 0, 0, 0, 0);
            Check.row(Nets.counts(loadedOver("tries 7;")), 0, 0, 0, 0, 48, 7, 1, 0, 0, 0, 0, 0, 0, 0);
            Check.row(Nets.counts(loadedOver("seed 7;")), 0, 0, 0, 0, 48, 3, 7, 0, 0, 0, 0, 0, 0, 0);
            // A prediction, or a text with an error, leaves nothing behind for the next text.
            String text = STATION.repeat(5) + "link 0 1 0 23 60;message 0 1 0;message 1 2 0;message 2 3 0;";
            String due = Picture.ofSaved(() -> Nets.loaded(text));
            Check.equal(due, Picture.ofSaved(() -> {
                ReliefNet net = cut(Nets.history());
                net.stateAfter(0, 30);
                Nets.load(net, text);
                return net;
            }));
            Check.equal(due, Picture.ofSaved(() -> {
                ReliefNet net = new ReliefNet();
                Nets.load(net, STATION + STATION + "link 1 0 5 5 5;message 1 0 3;life 9;tries 9;seed 9;#");
                Nets.load(net, text);
                return net;
            }));
        });
        doc.says("The text buffer is empty afterwards, also if there is an error.", () -> {
            for (String text : new String[] {"", "life 7;", "life", " ".repeat(700), "#".repeat(700)}) {
                ReliefNet net = appended(text);
                net.load();
                Check.equal(0, Nets.textLength(net));
                Check.equal(0, net.load());
                Check.equal(0, net.errorCode());
            }
        });
        doc.says("Returns the number of statements;", () -> {
            right("", 0);
            right("\n \n", 0);
            right(STATION, 1);
            right(NET + "message0 1 0;".repeat(24) + "life1;tries1;seed1;", 51);
            right("seed 0;".repeat(100), 100);
            right("seed0;".repeat(116), 116);
        });
        doc.says("NONE if the text has an error (then everything else stays).", () -> {
            String[] texts = {"station 1 2 3;station 3 2 1;link 0 1 1 1 1;message 0 1 1;life 1;tries 1;seed 1;;", "#",
                "life", "life 0;"};
            Picture.Maker before = () -> cut(Nets.history());
            for (String text : texts) {
                Check.equal(ReliefNet.NONE, Nets.load(before.make(), text));
                Check.equal(Picture.ofSaved(before), Picture.ofSaved(() -> {
                    ReliefNet net = before.make();
                    Nets.load(net, text);
                    return net;
                }));
            }
            ReliefNet net = before.make();
            String output = Nets.output(net);
            Check.equal(false, output.isEmpty());
            Nets.load(net, "#");
            Check.equal(output, Nets.output(net));
            net.restore(0);
            Check.equal(7, net.count(3));
        });
    }

    private static ReliefNet cut(ReliefNet net) {
        net.truncateText(0);
        return net;
    }

    private static ReliefNet loadedOver(String text) {
        ReliefNet net = cut(Nets.history());
        if (Nets.load(net, text) == ReliefNet.NONE) {
            throw new AssertionError("there is an error in " + text);
        }
        return net;
    }

    private static ReliefNet restored(ReliefNet net) {
        net.restore(0);
        return net;
    }

    private static void latestError(Sentences doc) {
        doc.section("Promise 5");
        doc.says("Returns the error code of the latest load();", () -> {
            ReliefNet net = new ReliefNet();
            String[] texts = {"#", "life 0;", NET + "station", TWO + "link 0 0", "life 0;", "#"};
            int[] codes = {1, 2, 3, 4, 2, 1};
            for (int text = 0; text < texts.length; text++) {
                Nets.load(net, texts[text]);
                Check.equal(codes[text], net.errorCode());
                Nets.append(net, "seed 1;");
                net.truncateText(0);
                net.run(1);
                Check.equal(codes[text], net.errorCode());
            }
        });
        doc.says("0 if its text had no error", () -> {
            ReliefNet net = new ReliefNet();
            for (String text : new String[] {"seed 5;", "", " "}) {
                Nets.load(net, "#");
                Nets.load(net, text);
                Check.equal(0, net.errorCode());
            }
        });
        doc.says(", or if there was no such call.", () -> {
            Check.equal(0, new ReliefNet().errorCode());
            Check.equal(0, appended("#").errorCode());
        });
        doc.section("Promise 6");
        doc.says("Returns the error position of the latest load();", () -> {
            ReliefNet net = new ReliefNet();
            String[] texts = {"#", "life 0;", "seed", " ".repeat(699) + "#", "life" + " ".repeat(696), "#"};
            int[] positions = {0, 5, 4, 699, 700, 0};
            for (int text = 0; text < texts.length; text++) {
                Nets.load(net, texts[text]);
                Check.equal(positions[text], net.errorPosition());
            }
            Nets.append(net, "seed 1;");
            net.truncateText(0);
            net.run(1);
            Check.equal(0, net.errorPosition());
        });
        doc.says("NONE if its text had no error", () -> {
            ReliefNet net = new ReliefNet();
            for (String text : new String[] {"seed 5;", "", " "}) {
                Nets.load(net, " #");
                Nets.load(net, text);
                Check.equal(ReliefNet.NONE, net.errorPosition());
            }
        });
        doc.says(", or if there was no such call.", () -> {
            Check.equal(ReliefNet.NONE, new ReliefNet().errorPosition());
            Check.equal(ReliefNet.NONE, appended("#").errorPosition());
        });
    }
}
