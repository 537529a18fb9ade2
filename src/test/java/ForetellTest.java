/** Promises 25 to 30: what will happen if nothing is changed. */
public final class ForetellTest {
    private static final long INDEX = Check.THROWS_INDEX;
    private static final long ARGUMENT = Check.THROWS_ARGUMENT;
    private static final long STATE = Check.THROWS_STATE;
    private static final long ELEMENT = Check.THROWS_ELEMENT;

    private ForetellTest() {
    }

    public static void main(String[] args) {
        establishedIn();
        numberIn();
        knownIn();
        messagesIn();
        freshIn();
        numberIf();
        numberIfWrong();
        nothingChanges();
        beyondTheEnd();
        Check.end();
    }

    private static void establishedIn() {
        LinkDirectory x = new LinkDirectory();
        Check.due("service 1", 11, () -> x.establishedIn(1));
        Check.due("service 0", 19, () -> x.establishedIn(0));
        x.pass(10);
        Check.due("service 1 at 10", 1, () -> x.establishedIn(1));
        x.pass(1);
        Check.due("service 1 at 11", 0, () -> x.establishedIn(1));
        x.setOn(1, false, false);
        Check.due("established at a host that is off", 0, () -> x.establishedIn(1));
        x.setOn(0, false, false);
        Check.due("probing at a host that is off", ELEMENT, () -> x.establishedIn(0));
        x.withdraw(0);
        Check.due("withdrawn", ELEMENT, () -> x.establishedIn(0));
        x.setOn(1, true, false);
        Check.due("on again", 11, () -> x.establishedIn(1));
        for (int wrong : new int[] {-1, 2, Integer.MIN_VALUE, Integer.MAX_VALUE}) {
            Check.due("no such service", INDEX, () -> x.establishedIn(wrong));
        }
        // It will be established in 101 ticks, and then in 100.
        LinkDirectory z = heldUp(9, 0, 2);
        Check.put(z, "x");
        int added = z.add(1, 0, 5, 50);
        Check.due("one too late", ELEMENT, () -> z.establishedIn(added));
        z.pass(1);
        Check.due("within exactly 100 ticks", 100, () -> z.establishedIn(added));
        z.pass(99);
        Check.due("not yet", 1, () -> z.service(added, 5));
        z.pass(1);
        Check.due("now", 2, () -> z.service(added, 5));
        Check.due("its NUMBER", 4, () -> z.service(added, 2));
        // Six hosts with one name: each loses against the greater ones, which are established one by one.
        LinkDirectory y = Check.loaded("hosts a b c d e f;types t;service a t x 1 100;service b t x 2 100;"
            + "service c t x 3 100;service d t x 4 100;service e t x 5 100;service f t x 6 100;");
        long foretold = Check.answerOf((Check.Call) () -> y.establishedIn(0));
        for (int tick = 0; tick < foretold - 1; tick++) {
            y.pass(1);
        }
        Check.due("not yet", 0, () -> y.service(0, 5) == LinkDirectory.ESTABLISHED ? 1 : 0);
        y.pass(1);
        Check.due("now", LinkDirectory.ESTABLISHED, () -> y.service(0, 5));
    }

    private static void numberIn() {
        LinkDirectory x = new LinkDirectory();
        Check.due("now", 0, () -> x.numberIn(0, 0));
        Check.due("in 7 ticks", 0, () -> x.numberIn(0, 7));
        Check.due("in 8 ticks", 2, () -> x.numberIn(0, 8));
        Check.due("in 100 ticks", 2, () -> x.numberIn(0, 100));
        Check.due("that of service 1", 0, () -> x.numberIn(1, 100));
        x.pass(8);
        Check.due("2 now", 2, () -> x.numberIn(0, 0));
        Check.due("-1 ticks", ARGUMENT, () -> x.numberIn(0, -1));
        Check.due("101 ticks", ARGUMENT, () -> x.numberIn(0, 101));
        Check.due("least", ARGUMENT, () -> x.numberIn(0, Integer.MIN_VALUE));
        Check.due("greatest", ARGUMENT, () -> x.numberIn(0, Integer.MAX_VALUE));
        Check.due("no such service", INDEX, () -> x.numberIn(2, 0));
        Check.due("no such service", INDEX, () -> x.numberIn(-1, 0));
        Check.due("both wrong", INDEX, () -> x.numberIn(2, 101));
    }

    private static void knownIn() {
        LinkDirectory x = new LinkDirectory();
        Check.due("a knows 1", 8, () -> x.knownIn(0, 1));
        Check.due("b knows 0", 16, () -> x.knownIn(1, 0));
        Check.due("a never knows its own", ELEMENT, () -> x.knownIn(0, 0));
        x.pass(7);
        Check.due("in 1 tick", 1, () -> x.knownIn(0, 1));
        x.pass(1);
        Check.due("now", 0, () -> x.knownIn(0, 1));
        x.setPort(1, 91);
        Check.due("another PORT", 2, () -> x.knownIn(0, 1));
        x.setSide(0, 1);
        Check.due("the other side", ELEMENT, () -> x.knownIn(0, 1));
        for (int wrong : new int[] {-1, 2, Integer.MIN_VALUE, Integer.MAX_VALUE}) {
            Check.due("no such host", INDEX, () -> x.knownIn(wrong, 0));
            Check.due("no such service", INDEX, () -> x.knownIn(0, wrong));
        }
        // Within exactly 100 ticks, and one too late: the browser asks at 126, so the record is there behind tick 128.
        LinkDirectory y = Check.loaded("hosts a b;types t;service a t x 5 1000;browse b t;");
        y.pass(14);
        y.setOn(1, false, false);
        y.setOn(1, true, false);
        y.browse(1, 0, true);
        y.setSide(1, 1);
        y.pass(1);
        // It asked at 14, and asks at 16, 20, 28, 44, 76, 140.
        y.pass(63);
        y.setSide(1, 0);
        Check.due("the time", 78, () -> y.count(3));
        Check.due("the next question", 140, () -> y.browser(1, 0, 0));
        Check.due("140 + 3 - 78", 65, () -> y.knownIn(1, 0));
        // Asked at 140, then at 204.
        y.mark(y.count(4));
        Check.due("that question is lost", ELEMENT, () -> y.knownIn(1, 0));
        y.pass(28);
        Check.due("one too late", ELEMENT, () -> y.knownIn(1, 0));
        y.pass(1);
        Check.due("204 + 3 - 107", 100, () -> y.knownIn(1, 0));
    }

    private static void messagesIn() {
        LinkDirectory x = new LinkDirectory();
        Check.due("0 ticks", 0, () -> x.messagesIn(0));
        Check.due("1 tick", 3, () -> x.messagesIn(1));
        Check.due("11 ticks", 13, () -> x.messagesIn(11));
        for (int ticks : new int[] {2, 7, 50, 100}) {
            long foretold = x.messagesIn(ticks);
            Check.due("pass(" + ticks + ")", foretold, () -> x.pass(ticks));
            Check.due("undo", 0, x::undo);
        }
        x.mark(0);
        Check.due("a lost message is sent", 3, () -> x.messagesIn(1));
        for (int wrong : new int[] {-1, 101, Integer.MIN_VALUE, Integer.MAX_VALUE}) {
            Check.due("ticks", ARGUMENT, () -> x.messagesIn(wrong));
        }
    }

    private static void freshIn() {
        LinkDirectory x = Check.loaded("hosts a b;types t;service a t x 80 100;");
        Check.due("no record at all", 0, x::freshIn);
        x.pass(12);
        Check.due("a good record", 0, x::freshIn);
        x.withdraw(0);
        // The goodbye comes at 13, and the record expires at 14: in the third tick.
        Check.due("behind a goodbye", 3, x::freshIn);
        x.undo();
        x.setOn(0, false, false);
        // The record was born at 11 and expires at 111, in the tick 111, the 100th from now on.
        Check.due("within exactly 100 ticks", 100, x::freshIn);
        LinkDirectory y = Check.loaded("hosts a b;types t;service a t x 80 101;");
        y.pass(12);
        y.setOn(0, false, false);
        Check.due("one too late", ELEMENT, y::freshIn);
        y.pass(1);
        Check.due("now it is not", 100, y::freshIn);
    }

    private static void numberIf() {
        LinkDirectory x = Check.loaded("hosts a b c;types t u;service a t x 80 100;service b t y 7 100;");
        Check.due("a greater one wins the probes", 0, () -> x.numberIf(1, 0, 0, 81));
        Check.due("of the same PORT the greater host wins", 0, () -> x.numberIf(1, 0, 0, 80));
        Check.due("a smaller one is renamed", 2, () -> x.numberIf(1, 0, 0, 79));
        Check.due("another type", 0, () -> x.numberIf(1, 1, 0, 1));
        Check.due("the same host, another type", 0, () -> x.numberIf(0, 1, 0, 1));
        x.pass(11);
        Check.due("an established one defends itself", 2, () -> x.numberIf(1, 0, 0, 999));
        Check.due("the names of all are free elsewhere", 2, () -> x.numberIf(2, 0, 1, 999));
        x.setSide(1, 1);
        Check.due("on the other side", 0, () -> x.numberIf(1, 0, 0, 1));
        // Each of a, b and c has a name that c cannot have: x, x-2 (behind a renaming).
        LinkDirectory y = Check.loaded("hosts a b c;types t;service a t x 80 100;service b t x 70 100;");
        y.pass(30);
        Check.due("x-3", 3, () -> y.numberIf(2, 0, 0, 5));
        Check.due("its own x-2 stands in the way", 3, () -> y.numberIf(1, 0, 0, 5));
        StringBuilder text = new StringBuilder("hosts a b;types t;");
        for (char base = 'a'; base <= 'l'; base++) {
            text.append("service a t ").append(base).append(" 5 50;");
        }
        LinkDirectory z = Check.loaded(text.toString());
        Check.due("a 13th service", 0, () -> z.numberIf(1, 0, 0, 6));
        z.pass(11);
        Check.due("a 13th service that is renamed", 2, () -> z.numberIf(1, 0, 11, 999));
        Check.due("12 services as before", 12, () -> z.count(2));
        z.withdraw(4);
        Check.due("the name of a withdrawn service", 0, () -> z.numberIf(0, 0, 4, 999));
    }

    private static void numberIfWrong() {
        LinkDirectory x = Check.loaded("hosts a b c;types t u;service a t x 80 100;service b t y 7 100;");
        for (int wrong : new int[] {-1, 3, Integer.MIN_VALUE, Integer.MAX_VALUE}) {
            Check.due("no such host", INDEX, () -> x.numberIf(wrong, 0, 0, 5));
            Check.due("no such type", INDEX, () -> x.numberIf(0, wrong, 0, 5));
            Check.due("no such service", INDEX, () -> x.numberIf(0, 0, wrong, 5));
            Check.due("with a wrong PORT, too", INDEX, () -> x.numberIf(0, 0, wrong, 0));
        }
        Check.due("the third type", INDEX, () -> x.numberIf(0, 2, 0, 5));
        Check.due("the third service", INDEX, () -> x.numberIf(0, 0, 2, 5));
        for (int wrong : new int[] {0, 1000, -5, Integer.MIN_VALUE, Integer.MAX_VALUE}) {
            Check.due("a wrong PORT", ARGUMENT, () -> x.numberIf(1, 0, 0, wrong));
            Check.due("a wrong PORT and a taken name", ARGUMENT, () -> x.numberIf(0, 0, 0, wrong));
        }
        Check.due("PORT 1", 2, () -> x.numberIf(1, 0, 0, 1));
        Check.due("PORT 999", 0, () -> x.numberIf(1, 0, 0, 999));
        Check.due("the host has the name", STATE, () -> x.numberIf(0, 0, 0, 5));
        Check.due("the host has the name", STATE, () -> x.numberIf(1, 0, 1, 5));
        x.setOn(2, false, false);
        Check.due("the host is off", STATE, () -> x.numberIf(2, 0, 0, 5));
        x.setOn(1, false, false);
        Check.due("off, and it has the name", STATE, () -> x.numberIf(1, 0, 1, 5));
        tooLate(9, 0, 0, 2);
        tooLate(10, 0, 0, ELEMENT);
        // 95 ticks behind nine rounds, 2 more for a lost defence, 3 more for each other name that is taken.
        tooLate(9, 1, 1, 3);
        tooLate(9, 0, 2, ELEMENT);
    }

    /**
     * The new service of b begins to probe for x at once, and again 9 ticks later as often as a's three defences
     * are lost: it announces then, and loses a conflict. Behind that it is renamed at once, and established in the
     * 14th tick.
     */
    private static LinkDirectory heldUp(int rounds, int more, int names) {
        StringBuilder text = new StringBuilder("hosts a b c d;types t;service a t x 500 1000;");
        text.append(names > 0 ? "service c t x 4 1000;" : "").append(names > 1 ? "service d t x 3 1000;" : "");
        LinkDirectory x = Check.loaded(text.toString());
        x.pass(60);
        int sent = x.count(4);
        for (int round = 0; round <= rounds; round++) {
            for (int defence = 0; defence < (round < rounds ? 3 : more); defence++) {
                x.mark(sent + 8 * round + 2 * defence + 1);
            }
        }
        return x;
    }

    private static void tooLate(int rounds, int more, int names, long want) {
        LinkDirectory x = heldUp(rounds, more, names);
        Check.due("behind " + rounds + " conflicts and " + names + " names", want, () -> x.numberIf(1, 0, 0, 5));
    }

    private static void nothingChanges() {
        new Stage("at 9", ForetellTest::atNine).unchangedBy("foretelling", x -> {
            x.establishedIn(0);
            x.numberIn(0, 100);
            x.knownIn(1, 0);
            Check.due("throws", ELEMENT, () -> x.knownIn(0, 0));
            x.messagesIn(100);
            x.freshIn();
            x.numberIf(0, 0, 1, 7);
            Check.due("throws", STATE, () -> x.numberIf(1, 0, 1, 7));
            return 0;
        });
    }

    private static LinkDirectory atNine() {
        LinkDirectory x = new LinkDirectory();
        x.pass(9);
        x.setPort(0, 5);
        x.write();
        Check.put(x, "b");
        return x;
    }

    private static void beyondTheEnd() {
        LinkDirectory x = Check.loaded("hosts a b;types t;service a t x 80 1000;");
        for (int times = 0; times < 50; times++) {
            x.pass(100);
        }
        Check.due("the end", 5000, () -> x.count(3));
        Check.put(x, "w");
        Check.due("a new service", 1, () -> x.add(1, 0, 5, 20));
        Check.due("established beyond 5000", 11, () -> x.establishedIn(1));
        Check.due("known beyond 5000", 8, () -> x.knownIn(0, 1));
        Check.due("messages beyond 5000", 5, () -> x.messagesIn(11));
        Check.due("the number beyond 5000", 0, () -> x.numberIn(1, 100));
        Check.due("another one beyond 5000", 2, () -> x.numberIf(1, 0, 0, 6));
        x.setOn(1, false, false);
        x.undo();
        Check.due("still at the end", 5000, () -> x.count(3));
    }
}
