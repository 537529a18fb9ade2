import java.util.NoSuchElementException;
import java.util.function.IntUnaryOperator;

/** What the tests share: it compares answers with the ones that are due, and counts the wrong ones. */
final class Check {
    /** A call that may throw. */
    interface Call {
        long answer();
    }

    /** A call that answers nothing. */
    interface Deed {
        void act();
    }

    static final long THROWS_INDEX = 1L << 40;
    static final long THROWS_ARGUMENT = 2L << 40;
    static final long THROWS_STATE = 3L << 40;
    static final long THROWS_ELEMENT = 4L << 40;
    static final long THROWS_OTHER = 5L << 40;

    private static int wrong = 0;
    private static int compared = 0;

    private Check() {
    }

    /** The answer of a call, or the number of the exception that it throws. */
    static long answerOf(Call call) {
        try {
            return call.answer();
        } catch (RuntimeException e) {
            Class<?> kind = e.getClass();
            return kind == IndexOutOfBoundsException.class ? THROWS_INDEX
                : kind == IllegalArgumentException.class ? THROWS_ARGUMENT
                : kind == IllegalStateException.class ? THROWS_STATE
                : kind == NoSuchElementException.class ? THROWS_ELEMENT : THROWS_OTHER;
        }
    }

    static long answerOf(Deed deed) {
        return answerOf((Call) () -> {
            deed.act();
            return 0;
        });
    }

    static void due(String what, long want, Call call) {
        same(what, want, answerOf(call));
    }

    static void dueDeed(String what, long want, Deed deed) {
        same(what, want, answerOf(deed));
    }

    static void dueDouble(String what, double want, double got) {
        compared++;
        if (want != got) {
            tell(what + ": answered " + got + ", due is " + want);
        }
    }

    static void same(String what, long want, long got) {
        compared++;
        if (want != got) {
            tell(what + ": answered " + named(got) + ", due is " + named(want));
        }
    }

    static void same(String what, String want, String got) {
        compared++;
        if (!want.equals(got)) {
            tell(what + ": " + difference(want, got));
        }
    }

    /** The first line that differs. */
    private static String difference(String want, String got) {
        String[] wanted = want.split("\n", -1);
        String[] gotten = got.split("\n", -1);
        int line = 0;
        while (line < wanted.length && line < gotten.length && wanted[line].equals(gotten[line])) {
            line++;
        }
        return "line " + (line + 1) + " is\n    " + (line < gotten.length ? gotten[line] : "missing") + "\n  due is\n    "
            + (line < wanted.length ? wanted[line] : "nothing");
    }

    static void tell(String what) {
        wrong++;
        if (wrong <= 40) {
            System.out.println(what);
        }
    }

    /** Ends the test: with 1 if an answer was wrong or nothing was compared. */
    static void end() {
        if (wrong > 0 || compared == 0) {
            System.out.println(wrong + " wrong of " + compared);
            System.exit(1);
        }
    }

    static String named(long answer) {
        return answer == THROWS_INDEX ? "throws.IndexOutOfBoundsException"
            : answer == THROWS_ARGUMENT ? "throws.IllegalArgumentException"
            : answer == THROWS_STATE ? "throws.IllegalStateException"
            : answer == THROWS_ELEMENT ? "throws.NoSuchElementException"
            : answer == THROWS_OTHER ? "throws another exception" : Long.toString(answer);
    }

    // ---- handling of texts

    /** append() of an object. */
    private interface Append {
        int of(int a, int b, int c, int d, int e);
    }

    /** Puts a text into the buffer, in place of what was there. */
    static void put(LinkDirectory x, String text) {
        put(text, x::append, x::truncate);
    }

    static void put(Lasting x, String text) {
        put(text, x::append, x::truncate);
    }

    /** Puts a text of up to 800 bytes into the buffer (what the last append() has too much is cut off). */
    private static void put(String text, Append append, IntUnaryOperator truncate) {
        int length = truncate.applyAsInt(0);
        for (int from = 0; from < text.length(); from += 20) {
            int[] words = new int[5];
            for (int place = 0; place < 20; place++) {
                int letter = from + place < text.length() ? text.charAt(from + place) & 255 : 0;
                words[place / 4] = words[place / 4] << 8 | letter;
            }
            length = append.of(words[0], words[1], words[2], words[3], words[4]);
        }
        if (length > text.length()) {
            truncate.applyAsInt(text.length());
        }
    }

    /** Loads a text; answers what load() does. */
    static long load(LinkDirectory x, String text) {
        put(x, text);
        return answerOf((Call) x::load);
    }

    static long load(Lasting x, String text) {
        put(x, text);
        return answerOf((Call) x::load);
    }

    /** A new object with a text that must have no error. */
    static LinkDirectory loaded(String text) {
        LinkDirectory x = new LinkDirectory();
        mustBeLoaded(text, load(x, text));
        return x;
    }

    /** Looks at what load() answered for a text that must have no error. */
    static void mustBeLoaded(String text, long answer) {
        if (answer >= THROWS_INDEX) {
            tell("the text of a test has an error: " + text);
        }
    }

    static String outputOf(LinkDirectory x) {
        return outputOf(x::outputByte);
    }

    static String outputOf(Lasting x) {
        return outputOf(x::outputByte);
    }

    private static String outputOf(IntUnaryOperator outputByte) {
        StringBuilder output = new StringBuilder();
        for (int place = 0; ; place++) {
            int at = place;
            long letter = answerOf((Call) () -> outputByte.applyAsInt(at));
            if (letter == THROWS_INDEX) {
                return output.toString();
            }
            output.append((char) letter);
        }
    }

    // ---- everything that an object shows

    /** Every answer of the methods that report what there is; two equal texts mean that nothing visible changed. */
    static String stateOf(Lasting x) {
        StringBuilder all = new StringBuilder();
        line(all, "error", x.errorCode(), x.errorPosition());
        all.append("counts");
        for (int what = 0; what <= 11; what++) {
            all.append(' ').append(x.count(what));
        }
        all.append('\n');
        hostsTo(all, x);
        for (int service = 0; service < x.count(2); service++) {
            all.append("service ").append(service).append(' ');
            for (int place = 0; x.baseByte(service, place) != LinkDirectory.NONE; place++) {
                all.append((char) x.baseByte(service, place));
            }
            for (int what = 0; what <= 10; what++) {
                all.append(' ').append(x.service(service, what));
            }
            all.append('\n');
        }
        for (int place = 0; place < x.count(6); place++) {
            all.append("message");
            for (int what = 0; what <= 7; what++) {
                all.append(' ').append(x.message(place, what));
            }
            all.append('\n');
        }
        for (int event = 0; event < x.count(10); event++) {
            line(all, "event", x.log(event, 0), x.log(event, 1), x.log(event, 2), x.log(event, 3));
        }
        all.append("marked");
        for (int message = 0; message <= 999; message++) {
            if (x.isMarked(message)) {
                all.append(' ').append(message);
            }
        }
        return all.append("\noutput ").append(outputOf(x)).append('\n').toString();
    }

    private static void hostsTo(StringBuilder all, Lasting x) {
        for (int host = 0; host < x.count(0); host++) {
            all.append("host");
            for (int what = 0; what <= 5; what++) {
                all.append(' ').append(x.host(host, what));
            }
            all.append('\n');
            for (int place = 0; place < x.host(host, 3); place++) {
                all.append("  record ");
                for (int letter = 0; x.recordByte(host, place, letter) != LinkDirectory.NONE; letter++) {
                    all.append((char) x.recordByte(host, place, letter));
                }
                for (int what = 0; what <= 7; what++) {
                    all.append(' ').append(x.record(host, place, what));
                }
                all.append('\n');
            }
            for (int type = 0; type < x.count(1); type++) {
                line(all, "  browser", x.browser(host, type, 0), x.browser(host, type, 1),
                    x.browser(host, type, 2), x.browser(host, type, 3));
            }
        }
    }

    private static void line(StringBuilder all, String name, int... numbers) {
        all.append(name);
        for (int number : numbers) {
            all.append(' ').append(number);
        }
        all.append('\n');
    }

    /** Compares a call that must throw, and looks whether it left everything as it was. */
    static void dueNothingChanged(Lasting x, String what, long want, Call call) {
        String before = stateOf(x);
        due(what, want, call);
        same(what + " must change nothing", before, stateOf(x));
    }
}
