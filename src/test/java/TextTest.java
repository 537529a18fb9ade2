/** Promises 2 to 7: the text buffer, load() with its errors, and find(). */
public final class TextTest {
    private static final int NONE = LinkDirectory.NONE;
    private static final String HEAD = "hosts a b;types t u;";

    private TextTest() {
    }

    public static void main(String[] args) {
        append();
        truncate();
        load();
        loadBeginsAnew();
        loadBehindForetelling();
        failedLoad();
        emptyAndCut();
        badTokens();
        badNames();
        badNumbers();
        takenNames();
        unknownNames();
        tooMany();
        orderOfErrors();
        fullTexts();
        find();
        findWrong();
        Check.end();
    }

    private static void append() {
        Lasting x = new Lasting();
        // "hosts a b;types t;  " cut to 18 bytes: every byte of every argument has to stand in its place.
        Check.due("append", 20, () -> x.append(0x686f7374, 0x73206120, 0x623b7479, 0x70657320, 0x743b2020));
        x.truncate(18);
        Check.due("the bytes in order", 0, x::load);
        Check.due("hosts", 2, () -> x.count(0));
        Check.due("types", 1, () -> x.count(1));
        for (int length = 20; length <= 800; length += 20) {
            int want = length;
            Check.due("append " + length, want, () -> x.append(0x20202020, 0x20202020, 0x20202020, 0x20202020, 0x20202020));
        }
        Check.due("append to 820", Check.THROWS_STATE, () -> x.append(0, 0, 0, 0, 0));
        Check.due("the length is still 800", 800, () -> x.truncate(800));
        Check.due("truncate(781)", 781, () -> x.truncate(781));
        Check.dueNothingChanged(x, "append to 801", Check.THROWS_STATE, () -> x.append(0, 0, 0, 0, 0));
        Check.due("truncate(780)", 780, () -> x.truncate(780));
        Check.due("append to 800", 800, () -> x.append(0, 0, 0, 0, 0));
        // Bytes above 127 and the sign of an argument.
        x.truncate(0);
        Check.due("append of minus one", 20, () -> x.append(-1, -1, -1, -1, -1));
        Check.due("byte 255 starts no token", Check.THROWS_ARGUMENT, x::load);
        Check.due("error", 1, x::errorCode);
        Check.due("position", 0, x::errorPosition);
    }

    private static void truncate() {
        LinkDirectory x = new LinkDirectory();
        Check.due("truncate(0) of the empty buffer", 0, () -> x.truncate(0));
        Check.put(x, "abcdefgh");
        Check.due("the same length", 8, () -> x.truncate(8));
        Check.due("too long", Check.THROWS_INDEX, () -> x.truncate(9));
        Check.due("negative", Check.THROWS_INDEX, () -> x.truncate(-1));
        Check.due("least", Check.THROWS_INDEX, () -> x.truncate(Integer.MIN_VALUE));
        Check.due("greatest", Check.THROWS_INDEX, () -> x.truncate(Integer.MAX_VALUE));
        Check.due("nothing changed", 8, () -> x.truncate(8));
        Check.due("truncate(1)", 1, () -> x.truncate(1));
        Check.due("cut", Check.THROWS_INDEX, () -> x.truncate(2));
        Check.due("the first byte stayed", 0, () -> x.find(0));
    }

    private static void load() {
        LinkDirectory x = new LinkDirectory();
        Check.same("hosts and types alone", 0, Check.load(x, "hosts a;types t;"));
        Check.due("hosts", 1, () -> x.count(0));
        Check.due("errorCode()", 0, x::errorCode);
        Check.due("errorPosition()", NONE, x::errorPosition);
        Check.due("the buffer is empty", Check.THROWS_INDEX, () -> x.truncate(1));
        Check.same("all that there is", 3, Check.load(x, "\n hosts abcdef b\nc ; types browse lose types hosts;"
            + "service abcdef lose lose 0001 20;service b types hosts 999 1000 ;service b types browse 12 0100;"
            + "browse c browse;browse b lose;browse b types;lose 999 0;lose 0007;\n \n"));
        Check.due("hosts", 3, () -> x.count(0));
        Check.due("types", 4, () -> x.count(1));
        Check.due("browsers", 3, () -> x.count(7));
        int[][] services = {{0, 1, 0, 1, 20, 0, 0, 0}, {1, 2, 0, 999, 1000, 0, 0, 0}, {1, 2, 0, 12, 100, 0, 0, 0}};
        for (int service = 0; service < 3; service++) {
            for (int what = 0; what < 8; what++) {
                int at = service;
                int of = what;
                Check.due("service(" + at + ", " + of + ")", services[at][of], () -> x.service(at, of));
            }
        }
        Check.due("a browser", 0, () -> x.browser(2, 0, 0));
        Check.due("its interval", 2, () -> x.browser(2, 0, 1));
        Check.due("no browser", NONE, () -> x.browser(2, 1, 0));
        for (int message : new int[] {999, 0, 7}) {
            Check.due("marked", 1, () -> x.isMarked(message) ? 1 : 0);
        }
        Check.due("not marked", 0, () -> x.isMarked(1) ? 1 : 0);
        Check.same("no blanks but where they must be", 1,
            Check.load(x, "hosts a b;types t;service a t x 1 20;browse a t;browse b t;lose 1;"));
        Check.same("a number and a word without a blank", 1, Check.load(x, "hosts a b;types t;service a t x 1 20;"));
        Check.same("leading zeros", 1, Check.load(x, "hosts a;types t;service a t x 0001 0020;"));
    }

    private static void loadBeginsAnew() {
        LinkDirectory x = new LinkDirectory();
        x.save(0);
        x.save(1);
        x.mark(3);
        x.pass(40);
        x.write();
        Check.put(x, "a");
        x.add(0, 0, 5, 20);
        x.setOn(1, false, false);
        x.setSide(0, 1);
        Check.same("load", 1, Check.load(x, "hosts q;types v;service q v w 7 21;"));
        int[] counts = {1, 1, 1, 0, 0, 0, 0, 0, 0, 0, 0, 0};
        for (int what = 0; what < counts.length; what++) {
            int at = what;
            Check.due("count(" + what + ") is anew", counts[what], () -> x.count(at));
        }
        int[] host = {1, 0, 1, 0, 0, 0};
        for (int what = 0; what < host.length; what++) {
            int at = what;
            Check.due("host(0, " + what + ") is anew", host[what], () -> x.host(0, at));
        }
        Check.due("the mark is gone", 0, () -> x.isMarked(3) ? 1 : 0);
        Check.due("no event", Check.THROWS_INDEX, () -> x.log(0, 0));
        Check.due("no undo", Check.THROWS_STATE, x::undo);
        Check.dueDeed("slot 0 is empty", Check.THROWS_ELEMENT, () -> x.restore(0));
        Check.dueDeed("slot 1 is empty", Check.THROWS_ELEMENT, () -> x.restore(1));
        Check.same("the output stays", "x-2.t e\nx.t e\n", Check.outputOf(x));
    }

    /** What was foretold before must not come into the state for a text. */
    private static void loadBehindForetelling() {
        String text = "hosts a b;types t u;service a t x 5 20;service b t x 6 20;browse a t;browse b u;lose 3;";
        String view = View.of(() -> Check.loaded(text));
        String later = View.of(() -> Stage.passed(Check.loaded(text), 30));
        for (int ticks = 0; ticks <= 100; ticks++) {
            int foretold = ticks;
            Check.same("the state for the text", view, View.of(() -> loadedBehind(foretold, text)));
            Check.same("30 ticks later", later, View.of(() -> Stage.passed(loadedBehind(foretold, text), 30)));
        }
    }

    private static LinkDirectory loadedBehind(int foretold, String text) {
        LinkDirectory x = Check.loaded(text);
        x.setSide(0, 1);
        x.pass(12);
        x.setSide(0, 0);
        x.setPort(1, 6);
        x.setPort(0, 7);
        x.setOn(0, false, true);
        x.setOn(0, true, false);
        x.messagesIn(foretold);
        Check.load(x, text);
        return x;
    }

    private static void failedLoad() {
        Lasting x = new Lasting();
        x.pass(20);
        x.write();
        x.save(1);
        x.setPort(0, 81);
        String before = Check.stateOf(x).substring("error 0 -1".length());
        Check.same("a load with an error", Check.THROWS_ARGUMENT, Check.load(x, "hosts c;types t;service d"));
        Check.due("errorCode()", 4, x::errorCode);
        Check.due("errorPosition()", 24, x::errorPosition);
        Check.same("everything else stays", before, Check.stateOf(x).substring("error 4 24".length()));
        Check.due("the buffer is empty", Check.THROWS_INDEX, () -> x.truncate(1));
        Check.due("undo stays", 1, x::undo);
        Check.due("the PORT before", 80, () -> x.service(0, 3));
        Check.due("the error is no part of the state", 4, x::errorCode);
        Check.dueDeed("the slot stays", 0, () -> x.restore(1));
        Check.due("the error is no part of a slot", 24, x::errorPosition);
        Check.same("another error", Check.THROWS_ARGUMENT, Check.load(x, "hosts 5"));
        Check.due("errorCode()", 1, x::errorCode);
        Check.due("errorPosition()", 6, x::errorPosition);
        Check.same("no error", 0, Check.load(x, "hosts a;types b;"));
        Check.due("errorCode() is 0 again", 0, x::errorCode);
        Check.due("errorPosition() is NONE again", NONE, x::errorPosition);
    }

    private static void error(String text, int code, int position) {
        LinkDirectory x = new LinkDirectory();
        Check.same("load of " + text, Check.THROWS_ARGUMENT, Check.load(x, text));
        Check.due("the code for " + text, code, x::errorCode);
        Check.due("the position for " + text, position, x::errorPosition);
        Check.due("the buffer is empty", Check.THROWS_INDEX, () -> x.truncate(1));
        Check.due("the services stay", 2, () -> x.count(2));
    }

    private static void emptyAndCut() {
        error("", 1, 0);
        error(" \n ", 1, 3);
        String whole = "hosts a b;types t;service a t x 80 100;browse a t;lose 7;";
        for (int length = 0; length < whole.length(); length++) {
            String cut = whole.substring(0, length);
            boolean isText = length == 18 || length == 39 || length == 50;
            boolean isWordCut = !cut.endsWith(";") && !cut.endsWith(" ");
            if (!isText && !isWordCut) {
                error(cut, 1, length);
                error(cut + "\n ", 1, length + 2);
            }
        }
        error("host", 1, 0);
        error("hosts a b", 1, 9);
        error("hosts a b;typ", 1, 10);
        error("hosts a b;types t;ser", 1, 18);
        error("hosts a b;types t;service a t x 80 10", 2, 35);
        error("hosts a b;types t;service a t x 80 100", 1, 38);
        error("hosts a b;types t;service a t x 8", 1, 33);
        error("hosts a b;types t;lose 7", 1, 24);
    }

    private static void badTokens() {
        error("types t;hosts a;", 1, 0);
        error("hosts;types t;", 1, 5);
        error("hosts a;types;", 1, 13);
        error("hosts a types t;", 1, 16);
        error("hosts a;;types t;", 1, 8);
        error("hosts a;types t;;", 1, 16);
        error("hosts a;types t;x", 1, 16);
        error("hosts a;types t;hosts b;", 1, 16);
        error("hosts a;types t;7;", 1, 16);
        error("hosts A;types t;", 1, 6);
        error("hosts aB;types t;", 1, 7);
        error("hosts a,b;types t;", 1, 7);
        error("hosts a\tb;types t;", 1, 7);
        error("hosts a\rb;types t;", 1, 7);
        error("hosts a\0;types t;", 1, 7);
        error("hosts a-b;types t;", 1, 7);
        error("hosts a" + (char) 225 + ";types t;", 1, 7);
        error("hosts a1;types t;", 1, 7);
        error("hosts 1a;types t;", 1, 6);
        error("hosts a;types t 5;", 1, 16);
        error("hosts a{;types t;", 1, 7);
        error("hosts a`;types t;", 1, 7);
        error("hosts a;types t;/", 1, 16);
        error("hosts a;types t;:", 1, 16);
        error(HEAD + "service;", 1, 27);
        error(HEAD + "service 5", 1, 28);
        error(HEAD + "service a;", 1, 29);
        error(HEAD + "service a t;", 1, 31);
        error(HEAD + "service a t x;", 1, 33);
        error(HEAD + "service a t x y", 1, 34);
        error(HEAD + "service a t x 5;", 1, 35);
        error(HEAD + "service a t x 5 y;", 1, 36);
        error(HEAD + "service a t x 5 50 6;", 1, 39);
        error(HEAD + "service a t 7 5 50;", 1, 32);
        error(HEAD + "services a t x 5 50;", 1, 20);
        error(HEAD + "service a t x 5 50;service a t y 5 50;browse a t;service a t z 5 50;", 1, 69);
        error(HEAD + "browse;", 1, 26);
        error(HEAD + "browse a;", 1, 28);
        error(HEAD + "browse a t u;", 1, 31);
        error(HEAD + "browse 1 t;", 1, 27);
        error(HEAD + "browse a 1;", 1, 29);
        error(HEAD + "lose;", 1, 24);
        error(HEAD + "lose x;", 1, 25);
        error(HEAD + "lose 1 x;", 1, 27);
        error(HEAD + "lose 1;browse a t;", 1, 27);
        error(HEAD + "lose 1;service a t x 5 50;", 1, 27);
        error(HEAD + "lose 00001;", 1, 25);
        error(HEAD + "service a t x 00005 50;", 1, 34);
        error(HEAD + "service a t x 5 00050;", 1, 36);
        error(HEAD + "service 12345", 1, 28);
    }

    private static void badNames() {
        error("hosts abcdefg;types t;", 1, 6);
        error("hosts a service;types t;", 1, 8);
        error("hosts a;types abcdefg;", 1, 14);
        error(HEAD + "service abcdefg t x 5 50;", 1, 28);
        error(HEAD + "service a abcdefg x 5 50;", 1, 30);
        error(HEAD + "service a t abcdefg 5 50;", 1, 32);
        error(HEAD + "browse abcdefg t;", 1, 27);
        error(HEAD + "browse a abcdefg;", 1, 29);
    }

    private static void badNumbers() {
        error(HEAD + "service a t x 0 50;", 2, 34);
        error(HEAD + "service a t x 1000 50;", 2, 34);
        error(HEAD + "service a t x 9999 50;", 2, 34);
        error(HEAD + "service a t x 5 19;", 2, 36);
        error(HEAD + "service a t x 5 1001;", 2, 36);
        error(HEAD + "service a t x 5 0000;", 2, 36);
        error(HEAD + "lose 1000;", 2, 25);
        error(HEAD + "lose 5 9999;", 2, 27);
    }

    private static void takenNames() {
        error("hosts a b a;types t;", 3, 10);
        error("hosts a;types t u u;", 3, 18);
        error(HEAD + "service a t x 5 50;service a t x 6 60;", 3, 51);
        error(HEAD + "browse a t;browse a t;", 3, 40);
        error(HEAD + "browse b t;browse a t;browse b t;", 3, 51);
        error(HEAD + "lose 5 5;", 3, 27);
        error(HEAD + "lose 5;lose 6 05;", 3, 34);
        LinkDirectory x = new LinkDirectory();
        Check.same("a host and a type may have one name", 0, Check.load(x, "hosts a b;types b a;"));
        Check.same("the same BASE with another type or at another host", 3, Check.load(x,
            HEAD + "service a t x 5 50;service b t x 5 50;service a u x 5 50;browse a t;browse b t;browse a u;"));
    }

    private static void unknownNames() {
        error(HEAD + "service c t x 5 50;", 4, 28);
        error(HEAD + "service t t x 5 50;", 4, 28);
        error(HEAD + "service a a x 5 50;", 4, 30);
        error(HEAD + "service a v x 5 50;", 4, 30);
        error(HEAD + "browse c t;", 4, 27);
        error(HEAD + "browse b v;", 4, 29);
    }

    private static void tooMany() {
        error("hosts a b c d e f g;types t;", 5, 18);
        error("hosts a;types a b c d e;", 5, 22);
        StringBuilder services = new StringBuilder("hosts a;types t;");
        for (char base = 'a'; base <= 'l'; base++) {
            services.append("service a t ").append(base).append(" 5 50;");
        }
        error(services + "service", 5, services.length());
        error(services + " service a t m 5 50;", 5, services.length() + 1);
        error(services + "services a t m 5 50;", 1, services.length());
        error(services + "browse a t;service a t m 5 50;", 1, services.length() + 11);
        StringBuilder marks = new StringBuilder("hosts a;types t;lose");
        for (int message = 0; message < 30; message++) {
            marks.append(' ').append(message);
        }
        LinkDirectory x = new LinkDirectory();
        Check.same("12 services", 12, Check.load(x, services.toString()));
        Check.same("30 marks", 0, Check.load(x, marks + ";"));
        Check.same("6 hosts and 4 types", 0, Check.load(x, "hosts a b c d e f;types a b c d;"));
        error(marks + " 30;", 5, marks.length() + 1);
        error(marks + ";lose 30;", 5, marks.length() + 6);
    }

    private static void orderOfErrors() {
        error("hosts a b c d e f a;types t;", 3, 18);
        error("hosts a b c d e f abcdefg;types t;", 1, 18);
        error("hosts a;types a b c d a;", 3, 22);
        StringBuilder marks = new StringBuilder("hosts a;types t;lose");
        for (int message = 0; message < 30; message++) {
            marks.append(' ').append(message);
        }
        error(marks + " 7;", 3, marks.length() + 1);
        error(marks + " 1000;", 2, marks.length() + 1);
        error(marks + " 10000;", 1, marks.length() + 1);
        error(HEAD + "service c v x 0 0;", 4, 28);
        error(HEAD + "service a t x 5 50;service a t x 0 5;", 3, 51);
        error(HEAD + "service a t x 0 5", 2, 34);
        error("hosts a a b", 3, 8);
    }

    private static void fullTexts() {
        LinkDirectory x = new LinkDirectory();
        StringBuilder text = new StringBuilder("hosts a;types t;");
        while (text.length() < 800) {
            text.append(text.length() % 2 == 0 ? ' ' : '\n');
        }
        Check.same("800 bytes", 0, Check.load(x, text.toString()));
        text.setLength(799);
        error(text + "z", 1, 799);
        StringBuilder word = new StringBuilder("hosts a;types ");
        while (word.length() < 800) {
            word.append('z');
        }
        error(word.toString(), 1, 14);
        StringBuilder browsers = new StringBuilder("hosts a b c d e f;types a b c d;");
        for (int browser = 0; browser < 24; browser++) {
            browsers.append("browse ").append("abcdef".charAt(browser / 4)).append(' ')
                .append("abcd".charAt(browser % 4)).append(';');
        }
        Check.same("24 browsers", 0, Check.load(x, browsers.toString()));
        Check.due("count(7)", 24, () -> x.count(7));
        error(browsers + "browse c d;", 3, browsers.length() + 9);
        StringBuilder losses = new StringBuilder("hosts a;types t;");
        for (int message = 0; message < 30; message++) {
            losses.append("lose ").append(message * 30).append(';');
        }
        Check.same("30 losses", 0, Check.load(x, losses.toString()));
        Check.due("the last one", 1, () -> x.isMarked(870) ? 1 : 0);
        error(losses + "lose 1;", 5, losses.length() + 5);
        error(losses + "lose 30;", 3, losses.length() + 5);
        error(losses + "lose;", 1, losses.length() + 4);
    }

    private static void find() {
        Lasting x = Lasting.loaded("hosts alpha b abcdef;types t ta abcdef;"
            + "service b t yy 5 50;service alpha t xx 5 50;service b ta yy 5 50;service b ta abcdef 5 50;");
        found(x, "alpha", 0, 0);
        found(x, "b", 0, 1);
        found(x, "abcdef", 0, 2);
        found(x, "t", 1, 0);
        found(x, "ta", 1, 1);
        found(x, "abcdef", 1, 2);
        found(x, "yy", 2, 0);
        found(x, "xx", 2, 1);
        found(x, "abcdef", 2, 3);
        x.withdraw(0);
        found(x, "yy", 2, 0);
    }

    private static void found(Lasting x, String name, int sort, long want) {
        Check.put(x, name);
        Check.due("find(" + sort + ") of " + name, want, () -> x.find(sort));
        Check.due("the buffer is empty", Check.THROWS_INDEX, () -> x.truncate(1));
    }

    private static void findWrong() {
        Lasting x = Lasting.loaded("hosts alpha b abcdef;types t ta;service b t yy 5 50;");
        String before = Check.stateOf(x);
        for (String name : new String[] {"", "alph", "alphaa", "alpha ", " alpha", "Alpha", "al", "ta", "yy",
            "abcdefg", "abcdef\0", "1", "a".repeat(800)}) {
            found(x, name, 0, Check.THROWS_ELEMENT);
        }
        found(x, "b", 1, Check.THROWS_ELEMENT);
        found(x, "b", 2, Check.THROWS_ELEMENT);
        found(x, "", 1, Check.THROWS_ELEMENT);
        found(x, "", 2, Check.THROWS_ELEMENT);
        found(x, "b", -1, Check.THROWS_ARGUMENT);
        found(x, "b", 3, Check.THROWS_ARGUMENT);
        found(x, "zz", 3, Check.THROWS_ARGUMENT);
        found(x, "zz", Integer.MIN_VALUE, Check.THROWS_ARGUMENT);
        Check.same("finding changes nothing else", before, Check.stateOf(x));
    }
}
