/** Promises 33 to 43: the changes, undo(), save() and restore(). */
public final class ChangeTest {
    private static final int NONE = LinkDirectory.NONE;
    private static final long INDEX = Check.THROWS_INDEX;
    private static final long ARGUMENT = Check.THROWS_ARGUMENT;
    private static final long STATE = Check.THROWS_STATE;
    private static final long ELEMENT = Check.THROWS_ELEMENT;
    private static final int LEAST = Integer.MIN_VALUE;
    private static final int GREATEST = Integer.MAX_VALUE;

    private ChangeTest() {
    }

    public static void main(String[] args) {
        pass();
        passWrong();
        add();
        addWrong();
        withdraw();
        setPort();
        setOn();
        setSide();
        browse();
        mark();
        undo();
        undoOfCounts();
        undoOfEach();
        changesWithoutEffect();
        save();
        restore();
        Check.end();
    }

    private static void pass() {
        Lasting x = new Lasting();
        Check.due("pass(1)", 3, () -> x.pass(1));
        Check.due("pass(1) without a message", 0, () -> x.pass(1));
        Check.due("the time", 2, () -> x.count(3));
        Check.due("pass(6) and pass(1) are pass(7)", 8, () -> x.pass(6) + x.pass(1));
        Check.due("the time", 9, () -> x.count(3));
        Lasting y = new Lasting();
        Check.due("pass(9)", 11, () -> y.pass(9));
        Check.same("but for the changes", withoutChanges(x), withoutChanges(y));
        Lasting z = Lasting.loaded("hosts a;types t;service a t x 5 50;lose 0 1;");
        Check.due("lost messages were sent", 5, () -> z.pass(11));
    }

    private static String withoutChanges(Lasting x) {
        return Check.stateOf(x).replaceAll("(counts.*) [0-9]+\n", "$1\n");
    }

    private static void passWrong() {
        Lasting x = new Lasting();
        x.pass(100);
        for (int wrong : new int[] {0, -1, 101, LEAST, GREATEST}) {
            Check.dueNothingChanged(x, "pass(" + wrong + ")", ARGUMENT, () -> x.pass(wrong));
        }
        for (int times = 0; times < 48; times++) {
            x.pass(100);
        }
        x.pass(99);
        Check.due("the time", 4999, () -> x.count(3));
        Check.dueNothingChanged(x, "pass(2) to 5001", STATE, () -> x.pass(2));
        Check.dueNothingChanged(x, "pass(100)", STATE, () -> x.pass(100));
        Check.dueNothingChanged(x, "pass(101): the first of two", ARGUMENT, () -> x.pass(101));
        x.pass(1);
        Check.due("the time", 5000, () -> x.count(3));
        Check.dueNothingChanged(x, "pass(1) to 5001", STATE, () -> x.pass(1));
        Check.due("changes that are no pass() go on", 0, () -> x.setSide(0, 1));
        Check.due("undo", 7, x::undo);
        Check.due("undo", 6, x::undo);
        Check.due("one tick is left again", 4999, () -> x.count(3));
    }

    private static Lasting withWord(String word) {
        Lasting x = Lasting.loaded("hosts a b;types t u;service a t x 80 100;");
        Check.put(x, word);
        return x;
    }

    private static void add() {
        Lasting x = withWord("abcdef");
        x.pass(3);
        Check.put(x, "abcdef");
        Check.due("add", 1, () -> x.add(1, 1, 999, 1000));
        int[] want = {1, 1, 0, 999, 1000, 0, 0, 3, 0, 0, 0};
        for (int what = 0; what < want.length; what++) {
            int at = what;
            Check.due("service(1, " + what + ")", want[what], () -> x.service(1, at));
        }
        for (int place = 0; place < 6; place++) {
            int at = place;
            Check.due("BASE", "abcdef".charAt(place), () -> x.baseByte(1, at));
        }
        Check.due("the buffer is empty", INDEX, () -> x.truncate(1));
        Check.due("it was a change", 2, () -> x.count(11));
        Check.due("it probes", 1, () -> {
            x.pass(1);
            return x.service(1, 6);
        });
        Check.put(x, "q");
        Check.due("the least PORT and TTL", 2, () -> x.add(0, 0, 1, 20));
        x.setOn(1, false, false);
        Check.put(x, "q");
        Check.due("at a host that is off", 3, () -> x.add(1, 0, 5, 50));
        Check.due("no ALARM", NONE, () -> x.service(3, 7));
        Check.due("probing", 0, () -> x.service(3, 5));
        x.pass(5);
        Check.due("still no ALARM", NONE, () -> x.service(3, 7));
        x.setOn(1, true, false);
        Check.due("the host comes on", 9, () -> x.service(3, 7));
        x.withdraw(2);
        Check.put(x, "q");
        Check.due("the name of a withdrawn service", 4, () -> x.add(0, 0, 5, 50));
        Check.put(x, "q");
        Check.due("with another type", 5, () -> x.add(0, 1, 5, 50));
        Lasting y = new Lasting();
        y.pass(9);
        Check.put(y, "x");
        Check.due("behind a renaming", 2, () -> y.add(0, 0, 5, 50));
    }

    private static void addIs(String word, int host, int type, int port, int ttl, long want) {
        Lasting x = withWord(word);
        String before = Check.stateOf(x);
        String call = "add(" + host + ", " + type + ", " + port + ", " + ttl + ") of '" + word + "'";
        Check.due(call, want, () -> x.add(host, type, port, ttl));
        Check.due("the buffer is empty in every case", INDEX, () -> x.truncate(1));
        if (want >= INDEX) {
            Check.same("nothing else changes", before, Check.stateOf(x));
        }
    }

    private static void addWrong() {
        for (int wrong : new int[] {-1, 2, LEAST, GREATEST}) {
            addIs("y", wrong, 0, 5, 50, INDEX);
            addIs("y", 0, wrong, 5, 50, INDEX);
            addIs("", wrong, 0, 0, 0, INDEX);
        }
        for (int wrong : new int[] {0, 1000, -1, LEAST, GREATEST}) {
            addIs("y", 0, 0, wrong, 50, ARGUMENT);
            addIs("x", 0, 0, wrong, 50, ARGUMENT);
        }
        for (int wrong : new int[] {0, 19, 1001, -1, LEAST, GREATEST}) {
            addIs("y", 0, 0, 5, wrong, ARGUMENT);
        }
        for (String wrong : new String[] {"", "abcdefg", "y ", " y", "y\n", "yY", "Y", "y1", "1", "y\0", "a;", "a{", "a`",
            "y".repeat(800)}) {
            addIs(wrong, 0, 0, 5, 50, ARGUMENT);
        }
        addIs("x", 0, 0, 5, 50, STATE);
        addIs("x", 1, 0, 5, 50, 1);
        addIs("x", 0, 1, 5, 50, 1);
        addIs("z", 0, 0, 999, 20, 1);
        Lasting x = withWord("");
        for (char base = 'a'; base <= 'k'; base++) {
            Check.put(x, "" + base);
            x.add(1, 0, 5, 50);
        }
        Check.due("12 services", 12, () -> x.count(2));
        Check.put(x, "y");
        Check.due("a 13th", STATE, () -> x.add(1, 0, 5, 50));
        Check.put(x, "y");
        Check.due("a 13th with a wrong PORT", ARGUMENT, () -> x.add(1, 0, 0, 50));
        x.withdraw(0);
        Check.put(x, "y");
        Check.dueNothingChanged(x, "withdrawn services count", STATE, () -> x.add(1, 0, 5, 50));
    }

    private static void withdraw() {
        Lasting x = Lasting.loaded("hosts a b;types t;service a t x 80 100;service a t y 80 100;service a t z 80 100;");
        Check.due("probing", 0, () -> x.withdraw(0));
        Check.due("no ALARM", NONE, () -> x.service(0, 7));
        Check.due("withdrawn", LinkDirectory.WITHDRAWN, () -> x.service(0, 5));
        Check.due("no goodbye", 0, () -> x.count(4));
        x.pass(7);
        Check.due("announcing", 1, () -> x.withdraw(1));
        Check.due("no ALARM", NONE, () -> x.service(1, 7));
        Check.due("a goodbye", 0, () -> x.message(2, 6));
        Check.due("it is a response", 1, () -> x.message(2, 0));
        x.pass(4);
        Check.due("established", 2, () -> x.withdraw(2));
        Check.due("a goodbye", 0, () -> x.message(x.count(6) - 1, 6));
        Check.due("its PORT", 80, () -> x.message(x.count(6) - 1, 5));
        Check.dueNothingChanged(x, "withdrawn already", STATE, () -> x.withdraw(2));
        for (int wrong : new int[] {-1, 3, LEAST, GREATEST}) {
            Check.dueNothingChanged(x, "no such service", INDEX, () -> x.withdraw(wrong));
        }
        Lasting y = Lasting.loaded("hosts a b;types t;service a t x 80 100;");
        y.pass(12);
        y.setOn(0, false, false);
        Check.due("established, but its host is off", 2, () -> y.withdraw(0));
        Check.due("no goodbye", 0, () -> y.count(6));
        y.setOn(0, true, false);
        Check.due("it does not come again", LinkDirectory.WITHDRAWN, () -> y.service(0, 5));
        Check.due("without an ALARM", NONE, () -> y.service(0, 7));
    }

    private static void setPort() {
        Lasting x = Lasting.loaded("hosts a b;types t;service a t x 80 100;");
        Check.due("probing", 80, () -> x.setPort(0, 81));
        Check.due("no response", 0, () -> x.count(4));
        Check.due("ALARM stays", 0, () -> x.service(0, 7));
        x.pass(8);
        Check.due("announcing", 81, () -> x.setPort(0, 1));
        Check.due("ALARM", 12, () -> x.service(0, 7));
        Check.due("a response", 1, () -> x.message(0, 5));
        Check.due("its TTL", 100, () -> x.message(0, 6));
        x.pass(5);
        Check.due("established", 2, () -> x.service(0, 5));
        Check.due("established before", 1, () -> x.setPort(0, 999));
        Check.due("announcing then", 1, () -> x.service(0, 5));
        Check.due("ALARM", 17, () -> x.service(0, 7));
        Check.due("PORT", 999, () -> x.service(0, 3));
        Check.due("a response for it", 999, () -> x.message(1, 5));
        Check.due("the same PORT", 999, () -> x.setPort(0, 999));
        Check.due("a response again", 3, () -> x.count(6));
        for (int wrong : new int[] {0, 1000, -1, LEAST, GREATEST}) {
            Check.dueNothingChanged(x, "port " + wrong, ARGUMENT, () -> x.setPort(0, wrong));
            Check.dueNothingChanged(x, "both wrong", INDEX, () -> x.setPort(1, wrong));
        }
        for (int wrong : new int[] {-1, 1, LEAST, GREATEST}) {
            Check.dueNothingChanged(x, "no such service", INDEX, () -> x.setPort(wrong, 5));
        }
        x.pass(5);
        x.setOn(0, false, false);
        Check.due("its host is off", 999, () -> x.setPort(0, 7));
        Check.due("established still", 2, () -> x.service(0, 5));
        Check.due("no ALARM", NONE, () -> x.service(0, 7));
        x.withdraw(0);
        x.setOn(0, true, false);
        int sent = x.count(4);
        Check.due("withdrawn", 7, () -> x.setPort(0, 8));
        Check.due("no response", sent, () -> x.count(4));
        Check.due("withdrawn still", 3, () -> x.service(0, 5));
    }

    private static void setOn() {
        String text = "hosts a b c;types t;service a t x 80 100;service a t y 80 100;service b t z 7 100;"
            + "service a t w 80 100;browse a t;browse c t;";
        Lasting x = Lasting.loaded(text);
        x.withdraw(3);
        x.pass(12);
        int sent = x.count(4);
        Check.due("politely off", 2, () -> x.setOn(0, false, true));
        Check.due("off", 0, () -> x.host(0, 0));
        Check.due("two goodbyes", sent + 2, () -> x.count(4));
        int last = x.count(6);
        Check.due("the first for x", 0, () -> x.message(last - 2, 6));
        Check.due("the second for y", 0, () -> x.message(last - 1, 6));
        Check.due("no record", 0, () -> x.host(0, 3));
        Check.due("no browser", 0, () -> x.host(0, 4));
        Check.due("no ALARM", NONE, () -> x.service(0, 7));
        Check.due("the state stays", 2, () -> x.service(0, 5));
        x.pass(1);
        x.pass(2);
        Check.due("the goodbyes came", 1, () -> x.host(2, 3));
        int sentSince = x.count(4);
        Check.due("off already", 2, () -> x.setOn(0, false, true));
        Check.due("no more goodbyes", sentSince, () -> x.count(4));
        Check.due("another one off", 1, () -> x.setOn(1, false, false));
        Check.due("no goodbye", sentSince, () -> x.count(4));
        Check.due("the last one off", 0, () -> x.setOn(2, false, true));
        Check.due("on again", 1, () -> x.setOn(0, true, true));
        for (int service = 0; service < 2; service++) {
            int at = service;
            Check.due("probing", 0, () -> x.service(at, 5));
            Check.due("PROBES", 0, () -> x.service(at, 6));
            Check.due("ALARM", 15, () -> x.service(at, 7));
        }
        Check.due("withdrawn", 3, () -> x.service(3, 5));
        Check.due("without ALARM", NONE, () -> x.service(3, 7));
        x.pass(1);
        Check.due("on already", 1, () -> x.setOn(0, true, false));
        Check.due("its probes go on", 1, () -> x.service(0, 6));
        for (int wrong : new int[] {-1, 3, LEAST, GREATEST}) {
            Check.dueNothingChanged(x, "no such host", INDEX, () -> x.setOn(wrong, true, true));
            Check.dueNothingChanged(x, "no such host", INDEX, () -> x.setOn(wrong, false, false));
        }
        Lasting y = new Lasting();
        y.pass(9);
        y.setOn(0, false, true);
        y.setOn(0, true, true);
        Check.due("with the names that they have", 2, () -> y.service(0, 2));
        Lasting z = Lasting.loaded(text);
        z.pass(2);
        z.setOn(0, false, true);
        Check.due("no goodbye for what is probing", 0, () -> z.count(6));
        z.pass(50);
        Check.due("what is off does nothing", 1, () -> z.service(0, 6));
    }

    private static void setSide() {
        Lasting x = new Lasting();
        Check.due("0 before", 0, () -> x.setSide(1, 1));
        Check.due("1 now", 1, () -> x.host(1, 1));
        Check.due("1 before", 1, () -> x.setSide(1, 1));
        Check.due("1 before", 1, () -> x.setSide(1, 0));
        Check.due("0 now", 0, () -> x.host(1, 1));
        for (int wrong : new int[] {-1, 2, LEAST, GREATEST}) {
            Check.dueNothingChanged(x, "no such side", ARGUMENT, () -> x.setSide(0, wrong));
            Check.dueNothingChanged(x, "no such host", INDEX, () -> x.setSide(wrong, 0));
            Check.dueNothingChanged(x, "both", INDEX, () -> x.setSide(wrong, wrong));
        }
        x.setOn(0, false, false);
        Check.due("of a host that is off", 0, () -> x.setSide(0, 1));
        Check.due("1 now", 1, () -> x.host(0, 1));
    }

    private static void browse() {
        Lasting x = Lasting.loaded("hosts a b;types t u;browse a t;");
        x.pass(1);
        Check.due("a second type", 2, () -> x.browse(0, 1, true));
        Check.due("TIME", 1, () -> x.browser(0, 1, 0));
        Check.due("INTERVAL", 2, () -> x.browser(0, 1, 1));
        x.pass(1);
        Check.due("it asked", 1, () -> x.browser(0, 1, 2));
        Check.due("browsed already", 2, () -> x.browse(0, 1, true));
        Check.due("nothing happens", 3, () -> x.browser(0, 1, 0));
        Check.due("nothing happens", 1, () -> x.browser(0, 1, 2));
        Check.due("the end", 1, () -> x.browse(0, 0, false));
        Check.due("gone", NONE, () -> x.browser(0, 0, 0));
        Check.due("the other stays", 3, () -> x.browser(0, 1, 0));
        Check.due("no end of what is not", 1, () -> x.browse(0, 0, false));
        Check.due("again", 2, () -> x.browse(0, 0, true));
        Check.due("anew", 0, () -> x.browser(0, 0, 2));
        for (int wrong : new int[] {-1, 2, LEAST, GREATEST}) {
            Check.dueNothingChanged(x, "no such host", INDEX, () -> x.browse(wrong, 0, true));
            Check.dueNothingChanged(x, "no such type", INDEX, () -> x.browse(0, wrong, true));
            Check.dueNothingChanged(x, "no such type", INDEX, () -> x.browse(0, wrong, false));
        }
        x.setOn(1, false, false);
        Check.dueNothingChanged(x, "off", STATE, () -> x.browse(1, 0, true));
        Check.dueNothingChanged(x, "off, and no such type", INDEX, () -> x.browse(1, 2, true));
        Check.due("the end at a host that is off", 0, () -> x.browse(1, 0, false));
    }

    private static void mark() {
        Lasting x = Lasting.loaded("hosts a b;types t;service a t x 80 100;lose 3;");
        Check.due("a second one", 2, () -> x.mark(0));
        Check.due("the greatest", 3, () -> x.mark(999));
        Check.due("marked", 1, () -> x.isMarked(999) ? 1 : 0);
        Check.dueNothingChanged(x, "marked already", STATE, () -> x.mark(3));
        Check.dueNothingChanged(x, "marked already", STATE, () -> x.mark(0));
        for (int wrong : new int[] {-1, 1000, LEAST, GREATEST}) {
            Check.dueNothingChanged(x, "mark(" + wrong + ")", ARGUMENT, () -> x.mark(wrong));
        }
        x.pass(3);
        Check.due("two messages were sent", 2, () -> x.count(4));
        Check.due("one was lost", 1, () -> x.count(5));
        Check.dueNothingChanged(x, "it was sent", STATE, () -> x.mark(1));
        Check.due("the next one", 4, () -> x.mark(2));
        for (int message = 10; message < 36; message++) {
            x.mark(message);
        }
        Check.due("30 marked", 1, () -> x.isMarked(35) ? 1 : 0);
        Check.dueNothingChanged(x, "a 31st", STATE, () -> x.mark(100));
        Check.dueNothingChanged(x, "a 31st that is out of range", ARGUMENT, () -> x.mark(1000));
        Check.due("no more than 30", 29, () -> {
            x.undo();
            return x.mark(100) - 1;
        });
        x.pass(2);
        Check.due("the next one is lost", 2, () -> x.count(5));
    }

    private static void undo() {
        Lasting x = new Lasting();
        Check.due("nothing to undo", STATE, x::undo);
        String[] states = new String[12];
        for (int change = 0; change < 12; change++) {
            states[change] = withoutChanges(x);
            x.pass(change + 1);
        }
        Check.due("8 are kept", 8, () -> x.count(11));
        for (int left = 7; left >= 0; left--) {
            Check.due("undo", left, x::undo);
            Check.due("count(11)", left, () -> x.count(11));
            Check.same("the state before", states[left + 4], withoutChanges(x));
        }
        Check.dueNothingChanged(x, "no more", STATE, x::undo);
        x.pass(3);
        x.setSide(0, 1);
        Check.due("undo behind the end of the ring", 1, x::undo);
        x.setSide(1, 1);
        Check.due("another change in its place", 2, () -> x.count(11));
        Check.due("undo", 1, x::undo);
        Check.due("undo", 0, x::undo);
        Check.same("the state before", states[4], withoutChanges(x));
    }

    /** A conflict, a renaming, a lost message, an expired record and what browsers did are undone with the rest. */
    private static void undoOfCounts() {
        Lasting x = Lasting.loaded("hosts a b;types t;service a t x 5 20;service b t x 6 20;browse a t;lose 14;");
        x.setSide(0, 1);
        x.pass(12);
        x.setSide(0, 0);
        x.setPort(1, 6);
        String before = withoutChanges(x);
        x.pass(60);
        int[] counts = {5, 8, 9};
        for (int what : counts) {
            Check.due("count(" + what + ") is there", 1, () -> x.count(what) > 0 ? 1 : 0);
        }
        String behind = withoutChanges(x);
        x.undo();
        Check.same("everything is undone", before, withoutChanges(x));
        x.pass(60);
        Check.same("and comes again", behind, withoutChanges(x));
    }

    /** Each kind of change can be undone, and what was undone can be done again. */
    private static void undoOfEach() {
        Lasting x = Lasting.loaded("hosts a b;types t u;service a t x 80 100;service b t x 90 100;browse a t;");
        x.pass(13);
        Check.Call[] changes = {
            () -> x.pass(7),
            () -> {
                Check.put(x, "y");
                return x.add(0, 0, 5, 50);
            },
            () -> x.withdraw(1),
            () -> x.setPort(1, 7),
            () -> x.setOn(1, false, true),
            () -> x.setSide(0, 1),
            () -> x.browse(1, 0, true),
            () -> x.browse(0, 0, false),
            () -> x.mark(500),
        };
        for (int change = 0; change < changes.length; change++) {
            String before = Check.stateOf(x);
            long answer = Check.answerOf(changes[change]);
            String behind = Check.stateOf(x);
            Check.same("change " + change + " does something", 0, before.equals(behind) ? 1 : 0);
            Check.due("undo of change " + change, 1, x::undo);
            Check.same("undone", before, Check.stateOf(x));
            Check.same("the same answer", answer, Check.answerOf(changes[change]));
            Check.same("the same state", behind, Check.stateOf(x));
            x.undo();
        }
    }

    private static void changesWithoutEffect() {
        Lasting x = Lasting.loaded("hosts a b;types t;service a t x 80 100;browse a t;");
        Check.Call[] changes = {
            () -> x.setPort(0, 80), () -> x.setOn(0, true, true), () -> x.setSide(1, 0),
            () -> x.browse(0, 0, true), () -> x.browse(1, 0, false),
        };
        for (int change = 0; change < changes.length; change++) {
            String before = withoutChanges(x);
            Check.answerOf(changes[change]);
            Check.same("everything is as it was", before, withoutChanges(x));
            Check.due("but it is a change", change + 1, () -> x.count(11));
        }
        Check.Call[] noChanges = {
            x::write, () -> x.append(0, 0, 0, 0, 0), () -> x.truncate(0), () -> x.find(9), () -> x.messagesIn(5),
            () -> x.pass(0), () -> x.withdraw(9), () -> x.mark(-1), x::stale, () -> x.add(9, 9, 9, 9),
        };
        for (Check.Call call : noChanges) {
            Check.answerOf(call);
            Check.due("no change", 5, () -> x.count(11));
        }
    }

    private static void save() {
        Lasting x = new Lasting();
        x.pass(9);
        String before = Check.stateOf(x);
        Check.dueDeed("save(0)", 0, () -> x.save(0));
        Check.same("saving is no change", before, Check.stateOf(x));
        String inFirst = withoutChanges(x);
        x.pass(20);
        Check.dueDeed("save(1)", 0, () -> x.save(1));
        String inSecond = withoutChanges(x);
        x.setOn(0, false, true);
        for (int wrong : new int[] {-1, 2, LEAST, GREATEST}) {
            Check.dueNothingChanged(x, "no such slot", INDEX, () -> {
                x.save(wrong);
                return 0;
            });
        }
        x.restore(0);
        Check.same("slot 0", inFirst, withoutChanges(x));
        x.restore(1);
        Check.same("slot 1", inSecond, withoutChanges(x));
        x.save(0);
        x.pass(5);
        x.restore(0);
        Check.same("in place of what was saved there", inSecond, withoutChanges(x));
        x.pass(5);
        x.undo();
        Check.dueDeed("a slot stays behind undo()", 0, () -> x.restore(1));
        Check.same("slot 1", inSecond, withoutChanges(x));
    }

    private static void restore() {
        Lasting x = new Lasting();
        for (int slot = 0; slot < 2; slot++) {
            int at = slot;
            Check.dueNothingChanged(x, "nothing is saved", ELEMENT, () -> {
                x.restore(at);
                return 0;
            });
        }
        for (int wrong : new int[] {-1, 2, LEAST, GREATEST}) {
            Check.dueNothingChanged(x, "no such slot", INDEX, () -> {
                x.restore(wrong);
                return 0;
            });
        }
        x.pass(9);
        x.mark(400);
        x.save(1);
        String saved = withoutChanges(x);
        for (int times = 0; times < 2; times++) {
            x.pass(30);
            x.setPort(1, 5);
            x.write();
            Check.put(x, "b");
            String output = Check.outputOf(x);
            Check.dueDeed("restore(1)", 0, () -> x.restore(1));
            Check.same("the state", saved.replaceAll("output (?s).*", ""),
                withoutChanges(x).replaceAll("output (?s).*", ""));
            Check.same("the output stays", output, Check.outputOf(x));
            Check.due("the buffer stays", 1, () -> x.find(0));
            Check.due("no change can be undone", STATE, x::undo);
            Check.due("none is kept", 0, () -> x.count(11));
        }
        Check.dueDeed("slot 0 is empty still", ELEMENT, () -> x.restore(0));
        x.pass(3);
        Check.load(x, "hosts");
        Check.dueDeed("behind a load() that throws", 0, () -> x.restore(1));
        Check.due("the error stays", 5, x::errorPosition);
        Check.load(x, "hosts a;types t;");
        Check.dueDeed("behind a load()", ELEMENT, () -> x.restore(1));
    }
}
