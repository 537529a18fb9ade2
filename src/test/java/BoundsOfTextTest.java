/**
 * The bounds that the document names for the text: runs of digits, lengths of words, numbers, how many there may be
 * of a thing, bytes, the end, and several errors at one position. A text with an error must change nothing but the
 * error and the buffer.
 */
public final class BoundsOfTextTest {
    private static final int NONE = LinkDirectory.NONE;
    private static final String HEAD = "hosts a b;types t u;";
    private static final String SERVICE = HEAD + "service a t x 5 50;";
    private static final Stage BEFORE = new Stage("another state", BoundsOfTextTest::before);
    private static final String VIEW = View.of(BoundsOfTextTest::before);

    private BoundsOfTextTest() {
    }

    public static void main(String[] args) {
        noErrorYet();
        end();
        lengthsOfWords();
        runsOfDigits();
        leadingZeros();
        ports();
        ttls();
        losses();
        numberOfHosts();
        numberOfTypes();
        numberOfServices();
        numberOfBrowsers();
        numberOfMarks();
        taken();
        unknown();
        atOnePosition();
        firstFromTheLeft();
        bytes();
        blanks();
        fullBuffer();
        errorsOfLoads();
        anew();
        Check.end();
    }

    /** A state with something of everything, so that it shows if a text with an error changes anything. */
    private static LinkDirectory before() {
        LinkDirectory x = Scenes.lively();
        x.save(1);
        x.setPort(1, 91);
        x.setOn(0, false, false);
        x.write();
        return x;
    }

    private static long load(LinkDirectory x, String text) {
        return Check.load(x, text);
    }

    /** The text has an error with this code at this position. */
    private static void error(String text, int code, int position) {
        String what = "load of '" + text + "'";
        BEFORE.due(what, Check.THROWS_ARGUMENT, x -> {
            Check.put(x, text);
            return x.load();
        });
        BEFORE.due(what + ": the code", code, x -> load(x, text) == Check.THROWS_ARGUMENT ? x.errorCode() : NONE);
        BEFORE.due(what + ": the position", position, x -> load(x, text) == 0 ? NONE : x.errorPosition());
        Check.same(what + " must change the error and the buffer alone",
            VIEW.replace("error 0 -1", "error " + code + " " + position), BEFORE.viewBehind(x -> load(x, text)));
    }

    /** The text has no error, and so many services. */
    private static void fine(String text, int services) {
        BEFORE.due("load of '" + text + "'", services, x -> load(x, text));
        BEFORE.due("no error in '" + text + "'", 0, x -> {
            load(x, text);
            return x.errorCode() - NONE + x.errorPosition();
        });
    }

    /** The text has no error, and the call answers this behind it. */
    private static void fine(String text, String what, long want, Stage.CallOn call) {
        BEFORE.due("'" + text + "': " + what, want, x -> load(x, text) < Check.THROWS_INDEX ? call.on(x) : NONE);
    }

    private static void noErrorYet() {
        Stage made = new Stage("a new object", LinkDirectory::new);
        made.shown("no load() yet", 0, LinkDirectory::errorCode);
        made.shown("no load() yet", NONE, LinkDirectory::errorPosition);
    }

    /** The end has the text length as its position, whatever blanks stand before it. */
    private static void end() {
        String[] texts = {"", "hosts", "hosts a", "hosts a b", "hosts a;", "hosts a;types", "hosts a;types t",
            HEAD + "service", HEAD + "service a", HEAD + "service a t", HEAD + "service a t x", HEAD + "service a t x 5",
            HEAD + "service a t x 5 50", HEAD + "browse", HEAD + "browse a", HEAD + "browse a t", HEAD + "lose",
            HEAD + "lose 5", HEAD + "lose 5 6"};
        for (String text : texts) {
            error(text, 1, text.length());
            error(text + " ", 1, text.length() + 1);
            error(text + "\n \n", 1, text.length() + 3);
        }
        fine("hosts a;types t;", 0);
        fine("hosts a;types t; ", 0);
        fine(SERVICE, 1);
        fine(SERVICE + "\n", 1);
        fine(HEAD + "browse a t;", 0);
        fine(HEAD + "lose 5 6;", 0);
    }

    /** A name is a word of 1 to 6 letters, also one that the grammar has. */
    private static void lengthsOfWords() {
        for (String word : new String[] {"z", "yz", "abcdef", "hosts", "types", "browse", "lose"}) {
            fine("hosts " + word + ";types " + word + ";service " + word + " " + word + " " + word + " 5 50;browse "
                + word + " " + word + ";", 1);
        }
        for (String word : new String[] {"abcdefg", "service", "aaaaaaa", "abcdefghijklmnopqrstuvwxyz"}) {
            error("hosts " + word + ";types t;", 1, 6);
            error("hosts a " + word + ";types t;", 1, 8);
            error("hosts a;types " + word + ";", 1, 14);
            error("hosts a;types t " + word + ";", 1, 16);
            error(HEAD + "service " + word + " t x 5 50;", 1, 28);
            error(HEAD + "service a " + word + " x 5 50;", 1, 30);
            error(HEAD + "service a t " + word + " 5 50;", 1, 32);
            error(HEAD + "browse " + word + " t;", 1, 27);
            error(HEAD + "browse a " + word + ";", 1, 29);
        }
        // A name of six letters is no name of seven letters that begins with it, nor one of five.
        fine("hosts abcdef abcde;types t;service abcde t x 5 50;", "the host", 1, x -> x.service(0, 0));
        error("hosts abcdef abcdeg;types t;service abcde t x 5 50;", 4, 36);
        // Words of the grammar, of which a letter is another one.
        String[] before = {"", "hosts a;", HEAD, HEAD, HEAD};
        String[] words = {"hosts", "types", "service", "browse", "lose"};
        String[] behind = {" a;types t;", " t;", " a t x 5 50;", " a t;", " 5;"};
        for (int word = 0; word < 5; word++) {
            fine(before[word] + words[word] + behind[word], word == 2 ? 1 : 0);
            for (int letter = 0; letter < words[word].length(); letter++) {
                StringBuilder other = new StringBuilder(words[word]);
                other.setCharAt(letter, other.charAt(letter) == 'z' ? 'y' : 'z');
                error(before[word] + other + behind[word], 1, before[word].length());
            }
        }
        // Words of the grammar, a letter too short or too long.
        error("host a;types t;", 1, 0);
        error("hostss a;types t;", 1, 0);
        error("hosts a;type t;", 1, 8);
        error("hosts a;typess t;", 1, 8);
        error(HEAD + "servic a t x 5 50;", 1, 20);
        error(HEAD + "services a t x 5 50;", 1, 20);
        error(HEAD + "brows a t;", 1, 20);
        error(HEAD + "browses a t;", 1, 20);
        error(HEAD + "los 5;", 1, 20);
        error(HEAD + "loses 5;", 1, 20);
    }

    /** Numbers are maximal runs of 1 to 4 digits; a run of more digits is an error wherever it stands. */
    private static void runsOfDigits() {
        fine(HEAD + "service a t x 0005 1000;lose 0 0001 0999;", 1);
        error(HEAD + "service a t x 00005 50;", 1, 34);
        error(HEAD + "service a t x 5 00050;", 1, 36);
        error(HEAD + "service a t x 5 10000;", 1, 36);
        error(HEAD + "lose 00000;", 1, 25);
        error(HEAD + "lose 5 00999;", 1, 27);
        error(HEAD + "lose 9999999999999999999999;", 1, 25);
        error(HEAD + "service a t x 4294967301 50;", 1, 34);
        error("hosts a 12345;types t;", 1, 8);
        error("12345", 1, 0);
        error("1234", 1, 0);
        // 4 digits are a number, which is out of range here; 5 digits are no number.
        error(HEAD + "service a t x 9999 50;", 2, 34);
        error(HEAD + "service a t x 99999 50;", 1, 34);
        error(HEAD + "service a t x 5 9999;", 2, 36);
        error(HEAD + "lose 9999;", 2, 25);
        error(HEAD + "lose 99990;", 1, 25);
    }

    private static void leadingZeros() {
        String[] sevens = {"7", "07", "007", "0007"};
        for (String seven : sevens) {
            fine(HEAD + "service a t x " + seven + " 50;", "the PORT", 7, x -> x.service(0, 3));
            fine(HEAD + "lose " + seven + ";", "the mark", 1, x -> x.isMarked(7) ? 1 : 0);
            for (String other : sevens) {
                error(HEAD + "lose " + seven + " " + other + ";", 3, 26 + seven.length());
            }
        }
        for (String ttl : new String[] {"20", "020", "0020"}) {
            fine(HEAD + "service a t x 5 " + ttl + ";", "the TTL", 20, x -> x.service(0, 4));
        }
        fine(HEAD + "lose 0000;", "the mark", 1, x -> x.isMarked(0) ? 1 : 0);
        error(HEAD + "service a t x 0000 50;", 2, 34);
        error(HEAD + "service a t x 5 0019;", 2, 36);
    }

    /** PORT is 1 to 999. */
    private static void ports() {
        for (int port : new int[] {1, 2, 998, 999}) {
            fine(HEAD + "service a t x " + port + " 50;", "the PORT", port, x -> x.service(0, 3));
        }
        for (String port : new String[] {"0", "00", "1000", "1001", "9999"}) {
            error(HEAD + "service a t x " + port + " 50;", 2, 34);
        }
        error(HEAD + "service a t x -1 50;", 1, 34);
    }

    /** TTL is 20 to 1000. */
    private static void ttls() {
        for (int ttl : new int[] {20, 21, 999, 1000}) {
            fine(HEAD + "service a t x 5 " + ttl + ";", "the TTL", ttl, x -> x.service(0, 4));
        }
        for (String ttl : new String[] {"0", "1", "18", "19", "1001", "1002", "9999"}) {
            error(HEAD + "service a t x 5 " + ttl + ";", 2, 36);
        }
    }

    /** Messages are 0 to 999. */
    private static void losses() {
        for (int message : new int[] {0, 1, 998, 999}) {
            fine(HEAD + "lose " + message + ";", "the mark", 1, x -> x.isMarked(message) ? 1 : 0);
        }
        for (String message : new String[] {"1000", "1001", "9999"}) {
            error(HEAD + "lose " + message + ";", 2, 25);
            error(HEAD + "lose 5 " + message + ";", 2, 27);
            error(HEAD + "lose 5;lose 6 " + message + ";", 2, 34);
        }
    }

    private static void numberOfHosts() {
        error("hosts;types t;", 1, 5);
        fine("hosts a;types t;", "hosts", 1, x -> x.count(0));
        fine("hosts a b c d e;types t;", "hosts", 5, x -> x.count(0));
        fine("hosts a b c d e f;types t;", "hosts", 6, x -> x.count(0));
        fine("hosts a b c d e f;types t;service f t x 5 50;", "the sixth host", 5, x -> x.service(0, 0));
        error("hosts a b c d e f g;types t;", 5, 18);
        error("hosts a b c d e f g h;types t;", 5, 18);
        error("hosts a b c d e f g", 5, 18);
        error("hosts a b c d e f", 1, 17);
    }

    private static void numberOfTypes() {
        error("hosts a;types;", 1, 13);
        fine("hosts a;types t;", "types", 1, x -> x.count(1));
        fine("hosts a;types t u v;", "types", 3, x -> x.count(1));
        fine("hosts a;types t u v w;", "types", 4, x -> x.count(1));
        fine("hosts a;types t u v w;service a w x 5 50;", "the fourth type", 3, x -> x.service(0, 1));
        error("hosts a;types t u v w x;", 5, 22);
        error("hosts a;types t u v w x y;", 5, 22);
        error("hosts a;types t u v w x", 5, 22);
        error("hosts a;types t u v w", 1, 21);
    }

    private static String services(int number) {
        StringBuilder text = new StringBuilder("hosts a;types t;");
        for (int service = 0; service < number; service++) {
            text.append("service a t ").append((char) ('a' + service)).append(" 5 50;");
        }
        return text.toString();
    }

    private static void numberOfServices() {
        for (int number : new int[] {0, 1, 11, 12}) {
            fine(services(number), number);
        }
        String twelve = services(12);
        fine(twelve + "browse a t;", 12);
        error(services(13), 5, twelve.length());
        error(services(14), 5, twelve.length());
        error(twelve + "service", 5, twelve.length());
        error(twelve + " service;", 5, twelve.length() + 1);
        error(twelve + "service z z z 0 0", 5, twelve.length());
        error(twelve + "servic", 1, twelve.length());
        error(services(11) + "service", 1, twelve.length() - 12);
    }

    private static void numberOfBrowsers() {
        StringBuilder text = new StringBuilder("hosts a b c d e f;types t u v w;");
        fine(text.toString(), "browsers", 0, x -> x.count(7));
        for (int browser = 0; browser < 24; browser++) {
            text.append("browse ").append("abcdef".charAt(browser / 4)).append(' ').append("tuvw".charAt(browser % 4))
                .append(';');
            fine(text.toString(), "browsers", browser + 1, x -> x.count(7));
        }
        error(text + "browse a t;", 3, text.length() + 9);
        error(text + "browse f w;", 3, text.length() + 9);
        error(text + "browse g w;", 4, text.length() + 7);
        fine(text + "lose 5;", "browsers", 24, x -> x.count(7));
    }

    private static String marks(int number, String between) {
        StringBuilder text = new StringBuilder("hosts a;types t;lose");
        for (int mark = 0; mark < number; mark++) {
            text.append(mark == 0 ? "" : between).append(' ').append(mark + 100);
        }
        return text.toString();
    }

    private static void numberOfMarks() {
        error("hosts a;types t;lose;", 1, 20);
        for (String between : new String[] {"", ";lose"}) {
            for (int number : new int[] {1, 29, 30}) {
                fine(marks(number, between) + ";", "marks", 100 + number - 1, x -> {
                    int last = NONE;
                    for (int message = 100; message < 140; message++) {
                        last = x.isMarked(message) ? message : last;
                    }
                    return last;
                });
            }
            String thirty = marks(30, between);
            error(marks(31, between) + ";", 5, thirty.length() + between.length() + 1);
            error(marks(32, between) + ";", 5, thirty.length() + between.length() + 1);
            error(thirty + between, 1, thirty.length() + between.length());
        }
        fine(marks(30, "") + ";", "the 31st one of mark()", Check.THROWS_STATE, x ->
            Check.answerOf((Check.Call) () -> x.mark(5)));
        fine(marks(29, "") + ";", "the 30th one of mark()", 30, x -> x.mark(5));
    }

    /** Code 3: what another one has, or what is so already. */
    private static void taken() {
        error("hosts a a;types t;", 3, 8);
        error("hosts a b c d e a;types t;", 3, 16);
        error("hosts abcdef abcdef;types t;", 3, 13);
        fine("hosts abcdef abcdeg;types t;", 0);
        error("hosts a;types t t;", 3, 16);
        error("hosts a;types t u v t;", 3, 20);
        fine("hosts a;types a;", 0);
        error(SERVICE + "service a t x 6 60;", 3, 51);
        fine(SERVICE + "service b t x 5 50;", 2);
        fine(SERVICE + "service a u x 5 50;", 2);
        fine(SERVICE + "service a t xx 5 50;", 2);
        error(HEAD + "browse a t;browse a t;", 3, 40);
        fine(HEAD + "browse a t;browse a u;browse b t;", 0);
        error(HEAD + "lose 5 5;", 3, 27);
        error(HEAD + "lose 5;lose 5;", 3, 32);
        fine(HEAD + "lose 5 6;", 0);
    }

    /** Code 4: the name of no host or type. */
    private static void unknown() {
        error(HEAD + "service c t x 5 50;", 4, 28);
        error(HEAD + "service t t x 5 50;", 4, 28);
        error(HEAD + "service a v x 5 50;", 4, 30);
        error(HEAD + "service a a x 5 50;", 4, 30);
        error(HEAD + "service aa t x 5 50;", 4, 28);
        error(HEAD + "browse c t;", 4, 27);
        error(HEAD + "browse b v;", 4, 29);
        error(HEAD + "browse b tt;", 4, 29);
    }

    /** Of several errors at the same position, the one with the lowest code. */
    private static void atOnePosition() {
        String hosts = "hosts a b c d e f ";
        error(hosts + "a;types t;", 3, 18);
        error(hosts + "f;types t;", 3, 18);
        error(hosts + "abcdefg;types t;", 1, 18);
        error(hosts + "5;types t;", 1, 18);
        String types = "hosts a;types t u v w ";
        error(types + "t;", 3, 22);
        error(types + "w;", 3, 22);
        error(types + "abcdefg;", 1, 22);
        String thirty = marks(30, "") + " ";
        error(thirty + "100;", 3, thirty.length());
        error(thirty + "129;", 3, thirty.length());
        error(thirty + "1000;", 2, thirty.length());
        error(thirty + "10000;", 1, thirty.length());
        error(thirty + "x;", 1, thirty.length());
        error(HEAD + "service abcdefg t x 5 50;", 1, 28);
        error(HEAD + "browse a abcdefg;", 1, 29);
        String twelve = services(12) + "browse a t;";
        error(twelve + "service a t z 5 50;", 1, twelve.length());
    }

    private static void firstFromTheLeft() {
        error(HEAD + "service c v x 0 0;", 4, 28);
        error(HEAD + "service a v x 0 0;", 4, 30);
        error(SERVICE + "service a t x 0 0;", 3, 51);
        error(HEAD + "service a t x 0 0;", 2, 34);
        error(HEAD + "service a t x 0", 2, 34);
        error(HEAD + "service a t x 5 0", 2, 36);
        error("hosts a a$", 3, 8);
        error("hosts a$a", 1, 7);
        error("hosts a b c d e f g a", 5, 18);
        error(HEAD + "browse a t;browse c t;browse a t;", 4, 38);
        error(HEAD + "lose 5 1000 5;", 2, 27);
        error(HEAD + "lose 5 5 1000;", 3, 27);
    }

    /** Which bytes are letters, digits, the symbol and blanks, and that all the others start no token. */
    private static void bytes() {
        for (int value = 0; value <= 255; value++) {
            String sign = "" + (char) value;
            boolean isLetter = value >= 97 && value <= 122;
            boolean isBlank = value == 10 || value == 32;
            String first = sign + "hosts a;types t;";
            String between = "hosts x" + sign + "x;types t;";
            String inNumber = HEAD + "lose 1" + sign + "1;";
            String last = "hosts a;types t;" + sign;
            if (isBlank) {
                fine(first, 0);
                error(between, 3, 8);
                error(inNumber, 3, 27);
                fine(last, 0);
            } else {
                error(first, 1, 0);
                error(last, 1, 16);
                if (isLetter) {
                    fine(between, 0);
                } else {
                    error(between, 1, value == 59 ? 8 : 7);
                }
                if (value >= 48 && value <= 57) {
                    int message = 101 + 10 * (value - 48);
                    fine(inNumber, "the mark", 1, x -> x.isMarked(message) ? 1 : 0);
                } else {
                    error(inNumber, 1, value == 59 ? 27 : 26);
                }
            }
        }
    }

    /** Blanks may stand before, between and behind tokens; where tokens are told apart without them, none must. */
    private static void blanks() {
        fine(" \n hosts \n a \n b \n ; \n types \n t \n ; \n service \n a \n t \n x \n 5 \n 50 \n ; \n browse \n a \n t"
            + " \n ; \n lose \n 5 \n 6 \n ; \n ", 1);
        fine("hosts a b;types t;service a t x 5 50;browse a t;lose 5 6;", 1);
        error("hostsa b;types t;", 1, 0);
        error("hosts a;typest;", 1, 8);
        // A word and a number are told apart without a blank.
        fine(HEAD + "service a t x5 50;lose5 6;", 1);
        error(HEAD + "service a t x5x 50;", 1, 34);
        error(HEAD + "service a t x5;", 1, 34);
    }

    /** The text buffer has at most 800 bytes. */
    private static void fullBuffer() {
        String text = "hosts a;types t;";
        String blanks = text + " ".repeat(783);
        fine(blanks, 0);
        fine(blanks + " ", 0);
        fine(" ".repeat(784) + text, 0);
        error(blanks + "z", 1, 799);
        error(" ".repeat(800), 1, 800);
        error(" ".repeat(799), 1, 799);
        error(" ".repeat(785) + "hosts a;types t", 1, 800);
        error("hosts a;types " + "z".repeat(786), 1, 14);
        error("z".repeat(800), 1, 0);
        error("hosts a;types t;lose " + "0".repeat(779), 1, 21);
        error("hosts a;types t;service a t " + " ".repeat(759) + "x 5 50;lose 5", 1, 800);
        fine("hosts a;types t;service a t " + " ".repeat(765) + "x 5 50;", 1);
    }

    /** errorCode() and errorPosition() tell of the latest load(), and nothing else sets them. */
    private static void errorsOfLoads() {
        Stage made = new Stage("a new object", LinkDirectory::new);
        String[] texts = {"x", HEAD + "lose 1000", "hosts a a", HEAD + "browse c", "hosts a b c d e f g"};
        int[] positions = {0, 25, 8, 27, 18};
        for (int code = 1; code <= 5; code++) {
            String text = texts[code - 1];
            Stage failed = made.behind("an error " + code, x -> load(x, text));
            failed.shown("the code", code, LinkDirectory::errorCode);
            failed.shown("the position", positions[code - 1], LinkDirectory::errorPosition);
            failed.due("a load() without an error", 0, x -> load(x, "hosts a;types t;") + x.errorCode());
            failed.due("a load() without an error", NONE, x -> load(x, "hosts a;types t;") + x.errorPosition());
            failed.due("another error", 7, x -> load(x, "hosts a,") == 0 ? NONE : x.errorPosition());
            Stage.CallOn[] others = {x -> x.pass(1), x -> x.setSide(0, 1), LinkDirectory::write, LinkDirectory::undo,
                x -> x.find(0), x -> x.add(0, 0, 5, 50), x -> x.truncate(1)};
            for (Stage.CallOn other : others) {
                failed.due("the code stays", code, x -> {
                    Check.answerOf((Check.Call) () -> other.on(x));
                    return x.errorCode();
                });
                failed.due("the position stays", positions[code - 1], x -> {
                    Check.answerOf((Check.Call) () -> other.on(x));
                    return x.errorPosition();
                });
            }
        }
    }

    /** Everything begins anew with a text that has no error, whatever there was before. */
    private static void anew() {
        String[] texts = {"hosts a;types t;", SERVICE + "service b t x 6 60;browse a t;lose 2;",
            services(12) + "browse a t;lose 3;", "hosts q r s t u v;types t u v w;"};
        for (String text : texts) {
            Check.same("the state for " + text, withoutOutput(View.of(() -> Check.loaded(text))),
                withoutOutput(BEFORE.viewBehind(x -> load(x, text))));
            // Nor must anything come into it of what was foretold before.
            for (int ticks : new int[] {0, 1, 2, 3, 5, 10, 11, 12, 30, 31, 32, 100}) {
                Check.same("behind foretelling " + ticks + ", the state for " + text, withoutOutput(View.of(() ->
                    Check.loaded(text))), withoutOutput(new Stage("foretold", Scenes::lively)
                        .viewBehind(x -> x.messagesIn(ticks) + load(x, text))));
            }
            for (int what = 3; what <= 11; what++) {
                int at = what;
                boolean isBrowsers = what == 7;
                fine(text, "count(" + what + ")", isBrowsers && text.contains("browse") ? 1 : 0, x -> x.count(at));
            }
            fine(text, "no change can be undone", Check.THROWS_STATE, x -> Check.answerOf((Check.Call) x::undo));
            fine(text, "the buffer", 20, x -> x.append(0, 0, 0, 0, 0));
            for (int slot = 0; slot <= 1; slot++) {
                int at = slot;
                fine(text, "the slot", Check.THROWS_ELEMENT, x -> Check.answerOf((Check.Deed) () -> x.restore(at)));
            }
        }
    }

    private static String withoutOutput(String view) {
        return view.replaceAll("output[^\n]*", "");
    }
}
