/**
 * The bounds of the arguments of all calls: the least and the greatest value that is allowed, those just outside of
 * them, the least and the greatest int, and several wrong ones at once. What is refused must change nothing.
 */
public final class BoundsOfCallsTest {
    private static final int NONE = LinkDirectory.NONE;
    private static final int LEAST = Stage.LEAST, GREATEST = Stage.GREATEST;
    private static final long INDEX = Check.THROWS_INDEX;
    private static final long ARGUMENT = Check.THROWS_ARGUMENT;
    private static final long STATE = Check.THROWS_STATE;
    private static final long ELEMENT = Check.THROWS_ELEMENT;

    private static final Stage NEW = new Stage("a new object", LinkDirectory::new);
    private static final Stage SMALL = Stage.of("hosts a;types t;", 0);
    private static final Stage FULL = new Stage("a full link", Scenes::full);

    private BoundsOfCallsTest() {
    }

    public static void main(String[] args) {
        append();
        bytesOfAppend();
        truncate();
        find();
        count();
        host();
        service();
        baseByte();
        haveSameName();
        record();
        recordByte();
        browser();
        message();
        isMarked();
        log();
        known();
        records();
        why();
        establishedIn();
        numberIn();
        knownIn();
        messagesIn();
        freshIn();
        numberIf();
        numberIfTooLate();
        numberIfTtl();
        outputByte();
        pass();
        passToTheEnd();
        add();
        addOrder();
        addWords();
        withdraw();
        setPort();
        setOn();
        setSide();
        browse();
        mark();
        markNumbers();
        save();
        restore();
        Check.end();
    }

    private static Stage filled(String text) {
        return NEW.behind("a buffer of " + text.length() + " bytes", x -> {
            Check.put(x, text);
            return 0;
        });
    }

    private static int[] outside(int least, int most) {
        return Stage.outside(least, most);
    }

    private static int asInt(boolean isTrue) {
        return isTrue ? 1 : 0;
    }

    // ---- promises 2 to 7

    private static void append() {
        for (int length : new int[] {0, 1, 20, 760, 779, 780}) {
            filled("z".repeat(length)).due("append", length + 20, x -> x.append(0, 0, 0, 0, 0));
        }
        for (int length : new int[] {781, 799, 800}) {
            filled("z".repeat(length)).refused("append", STATE, x -> x.append(0, 0, 0, 0, 0));
            filled("z".repeat(length)).refused("append", STATE, x -> x.append(LEAST, GREATEST, -1, 0, 1));
        }
    }

    /** Each of the 20 bytes has its place, and all of its eight bits. */
    private static void bytesOfAppend() {
        for (int place = 0; place < 20; place++) {
            int at = place;
            for (int letter : new int[] {0, 1, 9, 127, 128, 255}) {
                NEW.due("the place " + place + " of the byte " + letter, place, x -> {
                    int[] words = blanks();
                    words[at / 4] ^= (' ' ^ letter) << 8 * (3 - at % 4);
                    x.append(words[0], words[1], words[2], words[3], words[4]);
                    Check.answerOf((Check.Call) x::load);
                    return x.errorPosition();
                });
            }
        }
        // The bytes of the least int are 128, 0, 0, 0; those of the greatest one are 127, 255, 255, 255.
        int[] extremes = {LEAST, GREATEST, -1, 0};
        for (int argument = 0; argument < 5; argument++) {
            int at = argument;
            for (int extreme : extremes) {
                NEW.due("argument " + argument + ": " + extreme, 4 * argument, x -> {
                    int[] words = blanks();
                    words[at] = extreme;
                    x.append(words[0], words[1], words[2], words[3], words[4]);
                    Check.answerOf((Check.Call) x::load);
                    return x.errorPosition();
                });
            }
        }
        // 225 is 'a' with its highest bit: it is no letter.
        NEW.due("the byte 225", ELEMENT, x -> {
            x.append(225 << 24, 0, 0, 0, 0);
            x.truncate(1);
            return x.find(0);
        });
        NEW.due("the byte 97", 0, x -> {
            x.append(97 << 24 | 0xffffff, -1, -1, -1, -1);
            x.truncate(1);
            return x.find(0);
        });
    }

    private static int[] blanks() {
        return new int[] {0x20202020, 0x20202020, 0x20202020, 0x20202020, 0x20202020};
    }

    private static void truncate() {
        for (int length : new int[] {0, 1, 20, 799, 800}) {
            filled("z".repeat(length)).range("truncate", INDEX, 0, 0, length, length, LinkDirectory::truncate);
        }
        Stage cut = filled("abc").behind("cut", x -> x.truncate(2));
        cut.range("truncate", INDEX, 0, 0, 2, 2, LinkDirectory::truncate);
        filled("ab").due("the first byte stays", 0, x -> {
            x.truncate(1);
            return x.find(0);
        });
    }

    private static void find() {
        Stage named = filled("b");
        named.due("find", 1, x -> x.find(0));
        named.due("the buffer is empty then", INDEX, x -> {
            x.find(0);
            return x.truncate(1);
        });
        filled("t").due("find", 0, x -> x.find(1));
        filled("x").due("find", 0, x -> x.find(2));
        for (int wrong : outside(0, 2)) {
            named.refusedAndEmptied("find of the sort " + wrong, ARGUMENT, x -> x.find(wrong));
            // Nothing has this name, either: the exception that is named first.
            filled("q").refusedAndEmptied("find of the sort " + wrong, ARGUMENT, x -> x.find(wrong));
        }
        for (int sort = 0; sort <= 2; sort++) {
            int at = sort;
            for (String wrong : new String[] {"", "q", "bb", "b ", " b", "b\0", "B", "a".repeat(800)}) {
                filled(wrong).refusedAndEmptied("find of '" + wrong + "'", ELEMENT, x -> x.find(at));
            }
        }
        // Words of six letters, of which the last one differs, and words of seven.
        Stage six = Stage.of("hosts abcdef abcdeg;types tuvwxy tuvwxz;service abcdef tuvwxy zzzzzz 5 50;"
            + "service abcdeg tuvwxy zzzzzz 5 50;service abcdef tuvwxy zzzzzy 5 50;", 0);
        finds(six, "abcdeg", 0, 1);
        finds(six, "tuvwxz", 1, 1);
        finds(six, "zzzzzz", 2, 0);
        finds(six, "zzzzzy", 2, 2);
        finds(six, "abcdegg", 0, ELEMENT);
        finds(six, "abcde", 0, ELEMENT);
        finds(six, "tuvwxzz", 1, ELEMENT);
        finds(six, "zzzzzyy", 2, ELEMENT);
    }

    private static void finds(Stage stage, String name, int sort, long want) {
        stage.due("find(" + sort + ") of " + name, want, x -> {
            Check.put(x, name);
            return x.find(sort);
        });
    }

    // ---- promises 8 to 18

    private static void count() {
        NEW.range("count", ARGUMENT, 0, 2, 11, 0, LinkDirectory::count);
        NEW.behind("a change", x -> x.setSide(0, 1)).range("count", ARGUMENT, 0, 2, 11, 1, LinkDirectory::count);
        FULL.range("count", ARGUMENT, 0, 6, 11, 1, LinkDirectory::count);
    }

    private static void host() {
        SMALL.range("host", INDEX, 0, 1, 0, 1, (x, host) -> x.host(host, 0));
        NEW.range("host", INDEX, 0, 1, 1, 1, (x, host) -> x.host(host, 0));
        FULL.range("host", INDEX, 0, 0, 5, 12, (x, host) -> x.host(host, 2));
        FULL.range("what", ARGUMENT, 0, 1, 5, 63, (x, what) -> x.host(5, what));
        NEW.both("host", INDEX, outside(0, 1), outside(0, 5), LinkDirectory::host);
    }

    private static void service() {
        SMALL.range("service", INDEX, 0, 0, -1, 0, (x, service) -> x.service(service, 0));
        NEW.range("service", INDEX, 0, 80, 1, 90, (x, service) -> x.service(service, 3));
        FULL.range("service", INDEX, 0, 5, 11, 5, (x, service) -> x.service(service, 0));
        FULL.range("what", ARGUMENT, 0, 5, 10, 0, (x, what) -> x.service(11, what));
        NEW.both("service", INDEX, outside(0, 1), outside(0, 10), LinkDirectory::service);
        SMALL.both("service", INDEX, outside(0, -1), outside(0, 10), LinkDirectory::service);
    }

    private static void baseByte() {
        Stage words = Stage.of("hosts a;types t;service a t z 5 50;service a t abcdez 5 50;", 0);
        int[] none = {LEAST, -1, 1, 2, 5, 6, GREATEST};
        words.shown("the only letter", 'z', x -> x.baseByte(0, 0));
        for (int place : none) {
            words.shown("the place " + place + " of one letter", NONE, x -> x.baseByte(0, place));
        }
        words.shown("the first of six letters", 'a', x -> x.baseByte(1, 0));
        words.shown("the last of six letters", 'z', x -> x.baseByte(1, 5));
        for (int place : new int[] {LEAST, -1, 6, 7, 31, 32, 33, GREATEST}) {
            words.shown("the place " + place + " of six letters", NONE, x -> x.baseByte(1, place));
        }
        words.range("service", INDEX, 0, 'z', 1, 'a', (x, service) -> x.baseByte(service, 0));
        words.range("service, with no such place,", INDEX, 0, NONE, 1, NONE, (x, service) -> x.baseByte(service, -1));
        SMALL.range("service", INDEX, 0, 0, -1, 0, (x, service) -> x.baseByte(service, 0));
        FULL.range("service", INDEX, 0, 'a', 11, 'l', (x, service) -> x.baseByte(service, 0));
    }

    private static void haveSameName() {
        NEW.range("service", INDEX, 0, 1, 1, 1, (x, service) -> asInt(x.haveSameName(service, 0)));
        NEW.range("other", INDEX, 0, 1, 1, 1, (x, other) -> asInt(x.haveSameName(0, other)));
        FULL.range("service", INDEX, 0, 1, 11, 0, (x, service) -> asInt(x.haveSameName(service, 0)));
        FULL.range("other", INDEX, 0, 0, 11, 1, (x, other) -> asInt(x.haveSameName(11, other)));
        SMALL.range("service", INDEX, 0, 0, -1, 0, (x, service) -> asInt(x.haveSameName(service, service)));
        NEW.both("both", INDEX, outside(0, 1), outside(0, 1), (x, one, other) -> asInt(x.haveSameName(one, other)));
    }

    private static void record() {
        NEW.range("place without a record", INDEX, 0, 0, -1, 0, (x, place) -> x.record(0, place, 0));
        Stage two = Stage.of("hosts a b;types u t;service a t xyz 80 100;service a u w 7 50;", 12);
        two.range("host", INDEX, 1, 1, 1, 1, (x, host) -> x.record(host, 0, 0));
        two.due("the first host has none", INDEX, x -> x.record(0, 0, 0));
        two.range("place", INDEX, 0, 80, 1, 7, (x, place) -> x.record(1, place, 2));
        two.range("what", ARGUMENT, 0, 1, 7, 111, (x, what) -> x.record(1, 0, what));
        two.both("host and place", INDEX, outside(0, 1), outside(0, 1), (x, host, place) -> x.record(host, place, 0));
        two.both("host and what", INDEX, outside(0, 1), outside(0, 7), (x, host, what) -> x.record(host, 0, what));
        two.both("place and what", INDEX, outside(0, 1), outside(0, 7), (x, place, what) -> x.record(1, place, what));
        Stage most = new Stage("a full cache", Scenes::fifteenRecords).behind("one more", x -> {
            Scenes.addTo(x, "p", 1000);
            return x.pass(8);
        });
        most.range("place", INDEX, 0, 0, 15, 0, (x, place) -> x.record(2, place, 0));
        most.range("place", INDEX, 0, 'x', 15, 'p', (x, place) -> x.recordByte(2, place, 0));
        FULL.range("host", INDEX, 0, 3, 4, 3, (x, host) -> host == 5 ? INDEX : x.record(host, 11, 0));
    }

    private static void recordByte() {
        Stage words = Stage.of("hosts a b;types t;service a t z 5 50;service a t abcdez 5 50;", 8);
        words.shown("the only letter", 'z', x -> x.recordByte(1, 0, 0));
        for (int letter : new int[] {LEAST, -1, 1, 2, 5, 6, GREATEST}) {
            words.shown("the letter " + letter + " of one", NONE, x -> x.recordByte(1, 0, letter));
        }
        words.shown("the first of six letters", 'a', x -> x.recordByte(1, 1, 0));
        words.shown("the last of six letters", 'z', x -> x.recordByte(1, 1, 5));
        for (int letter : new int[] {LEAST, -1, 6, 7, 31, 32, 33, GREATEST}) {
            words.shown("the letter " + letter + " of six", NONE, x -> x.recordByte(1, 1, letter));
        }
        words.range("place", INDEX, 0, 'z', 1, 'a', (x, place) -> x.recordByte(1, place, 0));
        words.range("place, with no such letter,", INDEX, 0, NONE, 1, NONE, (x, place) -> x.recordByte(1, place, -1));
        words.range("host", INDEX, 1, 'z', 1, 'z', (x, host) -> x.recordByte(host, 0, 0));
        words.both("host and place", INDEX, outside(0, 1), outside(0, 1), (x, host, place) ->
            x.recordByte(host, place, 0));
        NEW.range("place without a record", INDEX, 0, 0, -1, 0, (x, place) -> x.recordByte(0, place, 0));
    }

    private static void browser() {
        NEW.range("host", INDEX, 0, 2, 1, NONE, (x, host) -> x.browser(host, 0, 1));
        NEW.range("type", INDEX, 0, 2, 0, 2, (x, type) -> x.browser(0, type, 1));
        NEW.range("what", ARGUMENT, 0, 0, 3, 0, (x, what) -> x.browser(0, 0, what));
        NEW.range("what, without a browser,", ARGUMENT, 0, NONE, 3, NONE, (x, what) -> x.browser(1, 0, what));
        FULL.range("host", INDEX, 0, NONE, 5, 14, (x, host) -> x.browser(host, 3, 0));
        FULL.range("type", INDEX, 0, NONE, 3, 14, (x, type) -> x.browser(5, type, 0));
        FULL.range("what", ARGUMENT, 0, 14, 3, 0, (x, what) -> x.browser(5, 3, what));
        NEW.both("host and type", INDEX, outside(0, 1), outside(0, 0), (x, host, type) -> x.browser(host, type, 0));
        NEW.both("host and what", INDEX, outside(0, 1), outside(0, 3), (x, host, what) -> x.browser(host, 0, what));
        NEW.both("type and what", INDEX, outside(0, 0), outside(0, 3), (x, type, what) -> x.browser(0, type, what));
    }

    private static void message() {
        NEW.range("place without a message", INDEX, 0, 0, -1, 0, (x, place) -> x.message(place, 0));
        Stage three = NEW.behind("a tick", x -> x.pass(1));
        three.range("place", INDEX, 0, 0, 2, 2, (x, place) -> x.message(place, 1));
        three.range("what", ARGUMENT, 0, 0, 7, NONE, (x, what) -> x.message(0, what));
        three.range("what of a query", ARGUMENT, 0, 2, 7, 0, (x, what) -> x.message(2, what));
        three.both("both", INDEX, outside(0, 2), outside(0, 7), LinkDirectory::message);
        NEW.both("both", INDEX, outside(0, -1), outside(0, 7), LinkDirectory::message);
        three.behind("they come", x -> x.pass(1))
            .range("place without a message", INDEX, 0, 0, -1, 0, (x, place) -> x.message(place, 0));
        new Stage("a storm", () -> Scenes.storm(3))
            .range("place", INDEX, 0, 55, 104, 159, (x, place) -> x.message(place, 1));
        Stage.of("hosts a b;types t;service a t x 5 100;", 11).behind("another PORT", x -> x.setPort(0, 6))
            .range("place", INDEX, 0, 5, 1, 6, (x, place) -> x.message(place, 5));
    }

    private static void isMarked() {
        Stage marked = Stage.of("hosts a;types t;lose 0 999;", 0);
        marked.range("isMarked", ARGUMENT, 0, 1, 999, 1, (x, message) -> asInt(x.isMarked(message)));
        SMALL.range("isMarked", ARGUMENT, 0, 0, 999, 0, (x, message) -> asInt(x.isMarked(message)));
        marked.shown("beside the first one", 0, x -> asInt(x.isMarked(1)));
        marked.shown("beside the last one", 0, x -> asInt(x.isMarked(998)));
        // "Also if it was sent already."
        Stage sent = NEW.behind("marked", x -> x.mark(2)).behind("a tick", x -> x.pass(1));
        long[] want = {0, 0, 1, 0};
        for (int message = 0; message < 4; message++) {
            int at = message;
            sent.shown("message " + message, want[message], x -> asInt(x.isMarked(at)));
        }
    }

    private static void log() {
        NEW.range("event of an empty log", INDEX, 0, 0, -1, 0, (x, event) -> x.log(event, 0));
        Stage two = NEW.behind("8 ticks", x -> x.pass(8));
        two.range("event", INDEX, 0, 7, 1, 1, (x, event) -> x.log(event, 1));
        two.range("what", ARGUMENT, 0, 0, 3, 2, (x, what) -> x.log(0, what));
        two.both("both", INDEX, outside(0, 1), outside(0, 3), LinkDirectory::log);
        NEW.both("both", INDEX, outside(0, -1), outside(0, 3), LinkDirectory::log);
        new Stage("19 events", () -> Scenes.events(19))
            .range("event", INDEX, 0, 15, 18, 0, (x, event) -> x.log(event, 2));
        new Stage("20 events", () -> Scenes.events(20))
            .range("event", INDEX, 0, 16, 19, 0, (x, event) -> x.log(event, 2));
        new Stage("21 events", () -> Scenes.events(21))
            .range("event", INDEX, 0, 17, 19, 1, (x, event) -> x.log(event, 2));
    }

    // ---- promises 19 to 24

    private static void known() {
        FULL.range("host", INDEX, 0, 5, 5, NONE, (x, host) -> x.known(host, 0));
        FULL.range("service", INDEX, 0, 5, 11, 5, (x, service) -> x.known(4, service));
        NEW.both("both", INDEX, outside(0, 1), outside(0, 1), LinkDirectory::known);
        SMALL.range("service without one", INDEX, 0, 0, -1, 0, (x, service) -> x.known(0, service));
    }

    private static void records() {
        FULL.range("host", INDEX, 0, 12, 5, 0, (x, host) -> x.records(host, 3));
        FULL.range("type", INDEX, 0, 0, 3, 12, (x, type) -> x.records(4, type));
        SMALL.range("host", INDEX, 0, 0, 0, 0, (x, host) -> x.records(host, 0));
        SMALL.range("type", INDEX, 0, 0, 0, 0, (x, type) -> x.records(0, type));
        NEW.both("both", INDEX, outside(0, 1), outside(0, 0), LinkDirectory::records);
    }

    private static void why() {
        NEW.range("depth", ARGUMENT, 0, 5, 1, 3, (x, depth) -> x.why(0, depth));
        NEW.range("service", INDEX, 0, 5, 1, 5, (x, service) -> x.why(service, 0));
        FULL.range("service", INDEX, 0, NONE, 11, NONE, (x, service) -> x.why(service, 1));
        SMALL.range("service without one", INDEX, 0, 0, -1, 0, (x, service) -> x.why(service, 0));
        NEW.both("both", INDEX, outside(0, 1), outside(0, 1), LinkDirectory::why);
    }

    // ---- promises 25 to 30

    private static Stage heldUp(int rounds, int more, int names) {
        return new Stage("held up by " + rounds + ", " + more + ", " + names, () -> {
            LinkDirectory x = Scenes.heldUp(rounds, more, names);
            Check.put(x, "x");
            x.add(1, 0, 5, 50);
            return x;
        });
    }

    private static void establishedIn() {
        NEW.range("service", INDEX, 0, 19, 1, 11, LinkDirectory::establishedIn);
        FULL.range("service", INDEX, 0, 0, 11, 0, LinkDirectory::establishedIn);
        SMALL.range("service without one", INDEX, 0, 0, -1, 0, LinkDirectory::establishedIn);
        Stage service = Stage.of("hosts a;types t;service a t x 5 50;", 0);
        for (int ticks = 0; ticks <= 12; ticks++) {
            int passed = ticks;
            Stage.of("hosts a;types t;service a t x 5 50;", ticks)
                .due("establishedIn", Math.max(0, 11 - passed), x -> x.establishedIn(0));
        }
        service.due("never: its host is off", ELEMENT, x -> {
            x.setOn(0, false, false);
            return x.establishedIn(0);
        });
        heldUp(9, 0, 1).shown("within 98 ticks", 98, x -> x.establishedIn(2));
        heldUp(9, 1, 1).shown("within 100 ticks", 100, x -> x.establishedIn(2));
        heldUp(9, 0, 2).refused("within 101 ticks", ELEMENT, x -> x.establishedIn(3));
        heldUp(9, 0, 2).due("a tick later", 100, x -> {
            x.pass(1);
            return x.establishedIn(3);
        });
        heldUp(9, 0, 2).due("in the 101st tick", 2, x -> {
            x.pass(100);
            int before = x.service(3, 5);
            x.pass(1);
            return before == 1 ? x.service(3, 5) : NONE;
        });
    }

    private static void numberIn() {
        NEW.range("service", INDEX, 0, 2, 1, 0, (x, service) -> x.numberIn(service, 100));
        NEW.range("ticks", ARGUMENT, 0, 0, 100, 2, (x, ticks) -> x.numberIn(0, ticks));
        FULL.range("service", INDEX, 0, 0, 11, 0, (x, service) -> x.numberIn(service, 1));
        NEW.both("both", INDEX, outside(0, 1), outside(0, 100), LinkDirectory::numberIn);
        SMALL.range("service without one", INDEX, 0, 0, -1, 0, (x, service) -> x.numberIn(service, 0));
        // The service is renamed in the eighth tick.
        NEW.shown("7 ticks", 0, x -> x.numberIn(0, 7));
        NEW.shown("8 ticks", 2, x -> x.numberIn(0, 8));
        // And another one for the fifth time in the hundredth tick.
        heldUp(9, 2, 4).shown("99 ticks", 5, x -> x.numberIn(5, 99));
        heldUp(9, 2, 4).shown("100 ticks", 6, x -> x.numberIn(5, 100));
    }

    private static void knownIn() {
        NEW.range("host", INDEX, 0, 8, 0, 8, (x, host) -> host == 1 ? INDEX : x.knownIn(host, 1));
        FULL.range("host", INDEX, 0, 0, 4, 0, (x, host) -> host == 5 ? INDEX : x.knownIn(host, 11));
        FULL.range("service", INDEX, 0, 0, 11, 0, (x, service) -> x.knownIn(4, service));
        NEW.both("both", INDEX, outside(0, 1), outside(0, 1), LinkDirectory::knownIn);
        SMALL.range("service without one", INDEX, 0, 0, -1, 0, (x, service) -> x.knownIn(0, service));
        NEW.refused("its own service", ELEMENT, x -> x.knownIn(0, 0));
        for (int ticks = 0; ticks <= 9; ticks++) {
            int passed = ticks;
            Stage.of("hosts a b;types t;service a t x 5 50;", ticks)
                .due("knownIn", Math.max(0, 8 - passed), x -> x.knownIn(1, 0));
        }
        // All answers but that to the query of the time 126 are lost; it comes in the tick 128.
        String text = "hosts a b;types t;service a t x 80 1000;browse b t;lose 5 7 8 10 12 14;";
        Stage.of(text, 28).refused("within 101 ticks", ELEMENT, x -> x.knownIn(1, 0));
        Stage.of(text, 29).shown("within 100 ticks", 100, x -> x.knownIn(1, 0));
        Stage.of(text, 128).shown("within a tick", 1, x -> x.knownIn(1, 0));
        Stage.of(text, 129).shown("now", 0, x -> x.knownIn(1, 0));
    }

    private static void messagesIn() {
        NEW.range("messagesIn", ARGUMENT, 0, 0, 100, 20, LinkDirectory::messagesIn);
        SMALL.range("messagesIn", ARGUMENT, 0, 0, 100, 0, LinkDirectory::messagesIn);
        NEW.shown("1 tick", 3, x -> x.messagesIn(1));
        // The browser asks at 30, 62 and 126, which is the 101st tick from 26 on, and the 100th one from 27 on.
        Stage.of("hosts a;types t;browse a t;", 26).shown("100 ticks", 2, x -> x.messagesIn(100));
        Stage.of("hosts a;types t;browse a t;", 27).shown("100 ticks", 3, x -> x.messagesIn(100));
        Stage.of("hosts a;types t;browse a t;", 27).shown("99 ticks", 2, x -> x.messagesIn(99));
    }

    private static void freshIn() {
        NEW.shown("no record", 0, LinkDirectory::freshIn);
        // The record was born at 11; the last tick of 100 is 111, the tick in which it expires if its TTL is 100.
        String text = "hosts a b;types t;service a t x 80 ";
        staleSince12(text + "99;").shown("99 ticks", 99, LinkDirectory::freshIn);
        staleSince12(text + "100;").shown("100 ticks", 100, LinkDirectory::freshIn);
        staleSince12(text + "101;").refused("101 ticks", ELEMENT, LinkDirectory::freshIn);
        staleSince12(text + "101;").due("a tick later", 100, x -> {
            x.pass(1);
            return x.freshIn();
        });
        staleSince12(text + "100;").due("a tick before", 1, x -> {
            x.pass(99);
            return x.freshIn();
        });
        staleSince12(text + "100;").due("now", 0, x -> {
            x.pass(100);
            return x.freshIn();
        });
    }

    private static Stage staleSince12(String text) {
        return Stage.of(text, 12).behind("a is off", x -> x.setOn(0, false, false));
    }

    private static void numberIf() {
        Stage three = Stage.of("hosts a b c;types t u;service a t x 80 100;service b t y 7 100;", 0);
        three.range("host", INDEX, 1, 0, 2, 0, (x, host) -> host == 0 ? INDEX : x.numberIf(host, 0, 0, 81));
        three.range("type", INDEX, 0, 2, 1, 0, (x, type) -> x.numberIf(2, type, 0, 79));
        three.range("like", INDEX, 0, 2, 1, 0, (x, like) -> x.numberIf(2, 0, like, 79));
        three.range("port", ARGUMENT, 1, 2, 999, 0, (x, port) -> x.numberIf(2, 0, 0, port));
        three.both("host and port", INDEX, outside(0, 2), outside(1, 999), (x, host, port) ->
            x.numberIf(host, 0, 0, port));
        three.both("type and port", INDEX, outside(0, 1), outside(1, 999), (x, type, port) ->
            x.numberIf(2, type, 0, port));
        three.both("like and port", INDEX, outside(0, 1), outside(1, 999), (x, like, port) ->
            x.numberIf(2, 0, like, port));
        three.refused("the host has the name", STATE, x -> x.numberIf(0, 0, 0, 5));
        for (int wrong : outside(1, 999)) {
            three.refused("the host has the name, port " + wrong, ARGUMENT, x -> x.numberIf(0, 0, 0, wrong));
        }
        for (int wrong : outside(0, 1)) {
            three.refused("the host has the name, type " + wrong, INDEX, x -> x.numberIf(0, wrong, 0, 5));
        }
        Stage off = three.behind("c is off", x -> x.setOn(2, false, false));
        off.refused("the host is off, so it would never be established", STATE, x -> x.numberIf(2, 0, 0, 5));
        off.refused("the host is off", ARGUMENT, x -> x.numberIf(2, 0, 0, 0));
        off.refused("the host is off", INDEX, x -> x.numberIf(2, 0, 2, 5));
        FULL.range("host", INDEX, 0, 2, 4, 2, (x, host) -> host == 5 ? INDEX : x.numberIf(host, 3, 0, 999));
        FULL.range("type", INDEX, 0, 0, 3, 2, (x, type) -> x.numberIf(0, type, 0, 999));
        FULL.range("like", INDEX, 0, 2, 11, 2, (x, like) -> x.numberIf(0, 3, like, 999));
        SMALL.range("like without a service", INDEX, 0, 0, -1, 0, (x, like) -> x.numberIf(0, 0, like, 5));
        // A withdrawn service and one with another NUMBER do not hinder; of the same PORT the greater host wins.
        three.behind("x is withdrawn", x -> x.withdraw(0)).due("the name is free", 0, x -> x.numberIf(0, 0, 0, 5));
        NEW.behind("8 ticks", x -> x.pass(8)).due("x-2 is not x", 3, x -> x.numberIf(0, 0, 0, 5));
        three.due("the PORT 80 of a greater host", 0, x -> x.numberIf(1, 0, 0, 80));
        three.due("a smaller PORT", 2, x -> x.numberIf(1, 0, 0, 79));
        three.due("the PORT 7 of a smaller host", 2, x -> x.numberIf(0, 0, 1, 7));
        three.due("a greater PORT", 0, x -> x.numberIf(0, 0, 1, 8));
    }

    private static void numberIfTooLate() {
        for (int rounds = 0; rounds <= 9; rounds++) {
            int times = rounds;
            new Stage("held up " + rounds + " times", () -> Scenes.heldUp(times, 0, 0))
                .due("numberIf", 2, x -> x.numberIf(1, 0, 0, 5));
        }
        new Stage("98 ticks", () -> Scenes.heldUp(9, 0, 1)).shown("numberIf", 3, x -> x.numberIf(1, 0, 0, 5));
        new Stage("100 ticks", () -> Scenes.heldUp(9, 1, 1)).shown("numberIf", 3, x -> x.numberIf(1, 0, 0, 5));
        new Stage("101 ticks", () -> Scenes.heldUp(9, 0, 2)).refused("numberIf", ELEMENT, x -> x.numberIf(1, 0, 0, 5));
    }

    /** "If it was added now with the TTL 100": it is that of a service that is added with it. */
    private static void numberIfTtl() {
        for (boolean isFirst : new boolean[] {true, false}) {
            Stage second = new Stage("r expires " + (isFirst ? "first" : "second"), () -> Scenes.secondToExpire(isFirst));
            second.shown("numberIf", 2, x -> x.numberIf(5, 0, 7, 500));
            for (int ttl = 99; ttl <= 101; ttl++) {
                int of = ttl;
                second.due("with the TTL " + ttl, ttl == (isFirst ? 99 : 101) ? 3 : 2, x -> {
                    int added = Scenes.addTo(x, 5, "q", 500, of);
                    x.pass(40);
                    return x.service(added, 5) == LinkDirectory.ESTABLISHED ? x.service(added, 2) : NONE;
                });
            }
        }
    }

    // ---- promises 31 and 32

    private static void outputByte() {
        NEW.range("outputByte without an output", INDEX, 0, 0, -1, 0, LinkDirectory::outputByte);
        NEW.behind("write()", LinkDirectory::write).range("outputByte", INDEX, 0, 'x', 11, '\n', LinkDirectory::outputByte);
        SMALL.behind("write()", LinkDirectory::write)
            .range("outputByte of an empty output", INDEX, 0, 0, -1, 0, LinkDirectory::outputByte);
        FULL.behind("write()", LinkDirectory::write).range("outputByte", INDEX, 0, 'a', 71, '\n', LinkDirectory::outputByte);
    }

    // ---- promises 33 to 43

    private static void pass() {
        NEW.range("pass", ARGUMENT, 1, 3, 100, 20, LinkDirectory::pass);
        NEW.due("one tick", 1, x -> {
            x.pass(1);
            return x.count(3);
        });
        NEW.due("100 ticks", 100, x -> {
            x.pass(100);
            return x.count(3);
        });
    }

    private static void passToTheEnd() {
        Stage at4900 = new Stage("at 4900", () -> Scenes.atTime(4900));
        at4900.due("pass(100) to 5000", 5000, x -> {
            x.pass(100);
            return x.count(3);
        });
        Stage at4901 = new Stage("at 4901", () -> Scenes.atTime(4901));
        at4901.refused("pass(100) to 5001", STATE, x -> x.pass(100));
        at4901.due("pass(99) to 5000", 5000, x -> {
            x.pass(99);
            return x.count(3);
        });
        Stage at4999 = new Stage("at 4999", () -> Scenes.atTime(4999));
        at4999.refused("pass(2) to 5001", STATE, x -> x.pass(2));
        at4999.due("pass(1) to 5000", 5000, x -> {
            x.pass(1);
            return x.count(3);
        });
        Stage end = new Stage("at 5000", () -> Scenes.atTime(5000));
        end.refused("pass(1) to 5001", STATE, x -> x.pass(1));
        end.refused("pass(100) to 5100", STATE, x -> x.pass(100));
        for (int wrong : outside(1, 100)) {
            end.refused("pass(" + wrong + "): the exception that is named first", ARGUMENT, x -> x.pass(wrong));
        }
    }

    private static void adds(String word, int host, int type, int port, int ttl, long want) {
        Stage stage = Stage.of("hosts a b;types t u;service a t x 80 100;", 0).behind("'" + word + "'", x -> {
            Check.put(x, word);
            return 0;
        });
        String call = "add(" + host + ", " + type + ", " + port + ", " + ttl + ")";
        if (want >= INDEX) {
            stage.refusedAndEmptied(call, want, x -> x.add(host, type, port, ttl));
        } else {
            stage.due(call, want, x -> x.add(host, type, port, ttl));
            stage.due(call + ": its host", host, x -> x.service(x.add(host, type, port, ttl), 0));
            stage.due(call + ": its type", type, x -> x.service(x.add(host, type, port, ttl), 1));
            stage.due(call + ": its PORT", port, x -> x.service(x.add(host, type, port, ttl), 3));
            stage.due(call + ": its TTL", ttl, x -> x.service(x.add(host, type, port, ttl), 4));
            stage.due(call + ": the buffer", 20, x -> {
                x.add(host, type, port, ttl);
                return x.append(0, 0, 0, 0, 0);
            });
        }
    }

    private static void add() {
        adds("y", 0, 0, 1, 20, 1);
        adds("y", 1, 1, 999, 1000, 1);
        adds("abcdef", 1, 0, 500, 500, 1);
        for (int wrong : outside(0, 1)) {
            adds("y", wrong, 0, 5, 50, INDEX);
            adds("y", 0, wrong, 5, 50, INDEX);
        }
        for (int wrong : outside(1, 999)) {
            adds("y", 0, 0, wrong, 50, ARGUMENT);
        }
        for (int wrong : outside(20, 1000)) {
            adds("y", 0, 0, 5, wrong, ARGUMENT);
        }
        adds("x", 0, 0, 5, 50, STATE);
        adds("x", 1, 0, 5, 50, 1);
        adds("x", 0, 1, 5, 50, 1);
        adds("xx", 0, 0, 5, 50, 1);
        // Eleven services, and twelve; withdrawn ones count.
        Stage eleven = Stage.of(services(11), 0);
        Stage twelve = Stage.of(services(12), 0);
        for (Stage full : new Stage[] {eleven, eleven.behind("one is withdrawn", x -> x.withdraw(3))}) {
            full.due("a twelfth service", 11, x -> addWord(x, "z", 0, 0, 5, 50));
            full.due("twelve services", 12, x -> {
                addWord(x, "z", 0, 0, 5, 50);
                return x.count(2);
            });
        }
        for (Stage full : new Stage[] {twelve, twelve.behind("one is withdrawn", x -> x.withdraw(3)), FULL}) {
            full.refused("a 13th service", STATE, x -> addWord(x, "z", 0, 0, 5, 50));
            full.refused("a 13th service with a wrong PORT", ARGUMENT, x -> addWord(x, "z", 0, 0, 1000, 50));
            full.refused("a 13th service with a wrong TTL", ARGUMENT, x -> addWord(x, "z", 0, 0, 5, 19));
            full.refused("a 13th service without a BASE", ARGUMENT, x -> addWord(x, "", 0, 0, 5, 50));
            full.refused("a 13th service of no host", INDEX, x -> addWord(x, "z", 6, 0, 5, 50));
        }
    }

    private static int addWord(LinkDirectory x, String word, int host, int type, int port, int ttl) {
        Check.put(x, word);
        return x.add(host, type, port, ttl);
    }

    private static String services(int number) {
        StringBuilder text = new StringBuilder("hosts a;types t;");
        for (int service = 0; service < number; service++) {
            text.append("service a t ").append((char) ('a' + service)).append(" 5 50;");
        }
        return text.toString();
    }

    /** Several exceptions apply: the one that is named first. */
    private static void addOrder() {
        for (int host : outside(0, 1)) {
            for (int type : outside(0, 1)) {
                adds("y", host, type, 5, 50, INDEX);
            }
            adds("y", host, 0, 0, 50, INDEX);
            adds("y", host, 0, 5, 19, INDEX);
            adds("", host, 0, 5, 50, INDEX);
            adds("x", 0, host, 1000, 1001, INDEX);
        }
        for (int port : outside(1, 999)) {
            for (int ttl : outside(20, 1000)) {
                adds("y", 0, 0, port, ttl, ARGUMENT);
            }
            adds("x", 0, 0, port, 50, ARGUMENT);
            adds("", 0, 0, port, 50, ARGUMENT);
        }
        for (int ttl : outside(20, 1000)) {
            adds("x", 0, 0, 5, ttl, ARGUMENT);
            adds("xy ", 0, 0, 5, ttl, ARGUMENT);
        }
    }

    /** BASE is a word of 1 to 6 letters. */
    private static void addWords() {
        for (String word : new String[] {"a", "z", "ab", "abcdef", "zzzzzz", "hosts", "lose"}) {
            adds(word, 0, 0, 5, 50, 1);
        }
        for (String word : new String[] {"", "abcdefg", "zzzzzzz", "`", "{", "A", "Z", "0", "-", "y ", " y", "y\n",
            "y;", "y\0", "\0", "abcde`", "abcde{", "abcdeF", "a" + (char) 225, "a".repeat(800)}) {
            adds(word, 0, 0, 5, 50, ARGUMENT);
        }
    }

    private static void withdraw() {
        NEW.range("withdraw", INDEX, 0, 0, 1, 0, LinkDirectory::withdraw);
        FULL.range("withdraw", INDEX, 0, 2, 11, 2, LinkDirectory::withdraw);
        SMALL.range("withdraw without a service", INDEX, 0, 0, -1, 0, LinkDirectory::withdraw);
        for (int ticks : new int[] {0, 6, 7, 10, 11}) {
            Stage.of("hosts a;types t;service a t x 5 50;", ticks)
                .due("its state before", ticks <= 6 ? 0 : ticks <= 10 ? 1 : 2, x -> x.withdraw(0));
        }
        NEW.behind("withdrawn", x -> x.withdraw(1)).refused("withdrawn already", STATE, x -> x.withdraw(1));
        FULL.behind("withdrawn", x -> x.withdraw(11)).refused("withdrawn already", STATE, x -> x.withdraw(11));
    }

    private static void setPort() {
        NEW.range("service", INDEX, 0, 80, 1, 90, (x, service) -> x.setPort(service, 5));
        NEW.range("port", ARGUMENT, 1, 80, 999, 80, (x, port) -> x.setPort(0, port));
        FULL.range("service", INDEX, 0, 5, 11, 5, (x, service) -> x.setPort(service, 999));
        FULL.range("port", ARGUMENT, 1, 5, 999, 5, (x, port) -> x.setPort(11, port));
        NEW.both("both", INDEX, outside(0, 1), outside(1, 999), LinkDirectory::setPort);
        SMALL.range("service without one", INDEX, 0, 0, -1, 0, (x, service) -> x.setPort(service, 5));
        for (int port : new int[] {1, 999}) {
            NEW.due("the PORT then", port, x -> {
                x.setPort(1, port);
                return x.service(1, 3);
            });
        }
    }

    private static void setOn() {
        for (int turn = 0; turn < 4; turn++) {
            boolean isOn = turn % 2 == 0;
            boolean isPolite = turn < 2;
            SMALL.range("setOn", INDEX, 0, isOn ? 1 : 0, 0, isOn ? 1 : 0, (x, host) -> x.setOn(host, isOn, isPolite));
            NEW.range("setOn", INDEX, 0, isOn ? 2 : 1, 1, isOn ? 2 : 1, (x, host) -> x.setOn(host, isOn, isPolite));
            FULL.range("setOn", INDEX, 0, isOn ? 6 : 5, 5, isOn ? 6 : 5, (x, host) -> x.setOn(host, isOn, isPolite));
        }
    }

    private static void setSide() {
        SMALL.range("host", INDEX, 0, 0, 0, 0, (x, host) -> x.setSide(host, 1));
        FULL.range("host", INDEX, 0, 0, 5, 0, (x, host) -> x.setSide(host, 1));
        NEW.range("side", ARGUMENT, 0, 0, 1, 0, (x, side) -> x.setSide(1, side));
        NEW.behind("side 1", x -> x.setSide(1, 1)).range("side", ARGUMENT, 0, 1, 1, 1, (x, side) -> x.setSide(1, side));
        NEW.both("both", INDEX, outside(0, 1), outside(0, 1), LinkDirectory::setSide);
        for (int side = 0; side <= 1; side++) {
            int to = side;
            NEW.due("the SIDE then", side, x -> {
                x.setSide(1, to);
                return x.host(1, 1);
            });
        }
    }

    private static void browse() {
        for (int turn = 0; turn < 2; turn++) {
            boolean isBrowsing = turn == 0;
            int begun = isBrowsing ? 1 : 0;
            NEW.range("host", INDEX, 0, begun, 1, begun, (x, host) -> x.browse(host, 0, isBrowsing));
            NEW.range("type", INDEX, 0, begun, 0, begun, (x, type) -> x.browse(1, type, isBrowsing));
            FULL.range("host", INDEX, 0, begun, 5, begun, (x, host) -> x.browse(host, 3, isBrowsing));
            FULL.range("type", INDEX, 0, begun, 3, begun, (x, type) -> x.browse(0, type, isBrowsing));
            NEW.both("both", INDEX, outside(0, 1), outside(0, 0), (x, host, type) -> x.browse(host, type, isBrowsing));
            Stage off = NEW.behind("b is off", x -> x.setOn(1, false, false));
            off.range("type at a host that is off", INDEX, 0, isBrowsing ? STATE : 0, 0, isBrowsing ? STATE : 0,
                (x, type) -> x.browse(1, type, isBrowsing));
        }
        NEW.behind("b is off", x -> x.setOn(1, false, false)).refused("off", STATE, x -> x.browse(1, 0, true));
        FULL.due("all four types", 4, x -> {
            x.browse(0, 0, true);
            x.browse(0, 1, true);
            x.browse(0, 2, true);
            return x.browse(0, 3, true);
        });
    }

    private static void mark() {
        SMALL.range("mark", ARGUMENT, 0, 1, 999, 1, LinkDirectory::mark);
        FULL.range("mark", ARGUMENT, 63, 1, 999, 1, (x, message) -> message == 62 ? ARGUMENT : x.mark(message));
        for (int marks : new int[] {28, 29}) {
            marked(marks).due("mark", marks + 1, x -> x.mark(500));
        }
        marked(30).refused("a 31st one", STATE, x -> x.mark(500));
        marked(30).refused("a 31st one that is marked", STATE, x -> x.mark(109));
        for (int wrong : outside(0, 999)) {
            marked(30).refused("a 31st one, " + wrong, ARGUMENT, x -> x.mark(wrong));
        }
        for (int marked : new int[] {100, 129}) {
            marked(30).due("undone, and marked again", 30, x -> {
                x.undo();
                return x.mark(129);
            });
            marked(29).due("marked already", marked == 100 ? STATE : 30, x -> x.mark(marked));
        }
        marked(29).refused("marked already", STATE, x -> x.mark(100));
        marked(29).refused("marked already", STATE, x -> x.mark(128));
    }

    /** The messages from 100 on are marked: 22 by the text, the others by mark(). */
    private static Stage marked(int marks) {
        StringBuilder text = new StringBuilder("hosts a;types t;lose");
        for (int message = 100; message < 122; message++) {
            text.append(' ').append(message);
        }
        return Stage.of(text + ";", 0).behind(marks + " marks", x -> {
            for (int message = 122; message < 100 + marks; message++) {
                x.mark(message);
            }
            return 0;
        });
    }

    /** A message that was sent cannot be marked, be it the latest one; the next one can. */
    private static void markNumbers() {
        NEW.due("before the first message", 1, x -> x.mark(0));
        Stage three = NEW.behind("a tick", x -> x.pass(1));
        three.due("three messages", 3, x -> x.count(4));
        three.refused("the first one", STATE, x -> x.mark(0));
        three.refused("the latest one", STATE, x -> x.mark(2));
        three.due("the next one", 1, x -> x.mark(3));
        Stage storm = new Stage("a storm", () -> Scenes.storm(5));
        storm.due("messages", 2290, x -> x.count(4));
        storm.refused("the greatest number was sent", STATE, x -> x.mark(999));
        storm.refused("out of range", ARGUMENT, x -> x.mark(1000));
        storm.refused("the next one is out of range", ARGUMENT, x -> x.mark(2290));
        new Stage("a storm", () -> Scenes.storm(4)).due("the greatest number", 26, x -> x.mark(999));
        new Stage("a storm", () -> Scenes.storm(4)).due("the next message", 26, x -> x.mark(585));
        new Stage("a storm", () -> Scenes.storm(4)).refused("the latest message", STATE, x -> x.mark(584));
    }

    private static int saved(LinkDirectory x, int slot) {
        x.save(slot);
        return 0;
    }

    private static int restored(LinkDirectory x, int slot) {
        x.restore(slot);
        return 0;
    }

    private static void save() {
        NEW.range("save", INDEX, 0, 0, 1, 0, BoundsOfCallsTest::saved);
        NEW.behind("a tick", x -> x.pass(1)).range("save", INDEX, 0, 0, 1, 0, BoundsOfCallsTest::saved);
    }

    private static void restore() {
        Stage both = NEW.behind("both saved", x -> saved(x, 0) + saved(x, 1) + x.pass(1));
        both.range("restore", INDEX, 0, 0, 1, 0, BoundsOfCallsTest::restored);
        for (int wrong : outside(0, 1)) {
            NEW.refused("restore, with nothing saved, of " + wrong, INDEX, x -> restored(x, wrong));
        }
        for (int slot = 0; slot <= 1; slot++) {
            int at = slot;
            NEW.refused("nothing is saved", ELEMENT, x -> restored(x, at));
            NEW.behind("the other one is saved", x -> saved(x, 1 - at))
                .refused("nothing is saved in " + slot, ELEMENT, x -> restored(x, at));
        }
    }
}
