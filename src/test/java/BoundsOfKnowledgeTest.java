/**
 * The boundary cases of what is told of a link: messages under way, known and stale records, clashes, coverage, why a
 * service is not established, and the output; each of them at the tick in which the answer changes, and before it.
 */
public final class BoundsOfKnowledgeTest {
    private static final int NONE = LinkDirectory.NONE;
    private static final String ONE = "hosts a b;types t;service a t x 5 100;";
    private static final String TWO_SIDES = "hosts a b;types t u;service a t x 5 100;service b t x 6 100;";

    private BoundsOfKnowledgeTest() {
    }

    public static void main(String[] args) {
        onAndOff();
        servicesOfHosts();
        messagesOfTwoTimes();
        kindsOfMessages();
        kindsOfEvents();
        known();
        sixHosts();
        stale();
        clashes();
        noPairs();
        coverage();
        why();
        sameNames();
        write();
        Check.end();
    }

    private static Stage one(int ticks) {
        return Stage.of(ONE, ticks);
    }

    private static void is(String what, long want, long got) {
        Check.same(what, want, got);
    }

    private static int off(LinkDirectory x, int host) {
        return x.setOn(host, false, false);
    }

    /** host(): "1 if it is on and 0 if it is off". */
    private static void onAndOff() {
        one(3).shown("on", 1, x -> x.host(1, 0));
        one(3).behind("b is off", x -> off(x, 1)).shown("off", 0, x -> x.host(1, 0));
        one(3).behind("b is off", x -> off(x, 1)).shown("the other one", 1, x -> x.host(0, 0));
        one(3).behind("b is off and on", x -> off(x, 1) + x.setOn(1, true, false)).shown("on", 1, x -> x.host(1, 0));
    }

    /** host(): "its services that are not withdrawn". */
    private static void servicesOfHosts() {
        Stage full = new Stage("a full link", Scenes::full);
        full.shown("all", 12, x -> x.host(5, 2));
        full.shown("none", 0, x -> x.host(4, 2));
        full.behind("one is withdrawn", x -> x.withdraw(11)).shown("all but one", 11, x -> x.host(5, 2));
        full.behind("all are withdrawn", x -> {
            for (int service = 0; service < 12; service++) {
                x.withdraw(service);
            }
            return 0;
        }).shown("none", 0, x -> x.host(5, 2));
        full.behind("off", x -> off(x, 5)).shown("of a host that is off", 12, x -> x.host(5, 2));
    }

    /** message(): what was sent in the latest tick, and behind it what changes have sent since then. */
    private static void messagesOfTwoTimes() {
        // The response 4 was sent in the tick 10.
        Stage two = one(11).behind("another PORT", x -> x.setPort(0, 6)).behind("a goodbye", x -> x.withdraw(0));
        two.due("under way", 3, x -> x.count(6));
        for (int place = 0; place <= 3; place++) {
            int at = place;
            two.due("number", place < 3 ? 4 + place : Check.THROWS_INDEX, x -> x.message(at, 1));
        }
        two.due("the PORT of the tick", 5, x -> x.message(0, 5));
        two.due("the PORT of the first change", 6, x -> x.message(1, 5));
        two.due("the TTL of the first change", 100, x -> x.message(1, 6));
        two.due("the TTL of the goodbye", 0, x -> x.message(2, 6));
        Stage later = two.behind("a tick", x -> x.pass(1));
        later.due("under way a tick later", 2, x -> x.count(6));
        later.due("number", 5, x -> x.message(0, 1));
        later.due("number", 6, x -> x.message(1, 1));
        later.due("no more", Check.THROWS_INDEX, x -> x.message(2, 1));
        later.behind("a tick", x -> x.pass(1)).due("none two ticks later", 0, x -> x.count(6));
        // Only changes have sent something.
        one(13).behind("another PORT", x -> x.setPort(0, 6)).due("number", 5, x -> x.message(0, 1));
    }

    /** message(): "NONE for 4 and 5 of a query, for 6 but of a response, and for 7 but of a query". */
    private static void kindsOfMessages() {
        Stage query = Stage.of("hosts a b;types u t;service b t y 6 90;service a t x 5 80;browse b t;", 7);
        int[][] want = {
            {1, 8, 1, 1, 0, 6, 90, NONE}, {1, 9, 0, 1, 0, 5, 80, NONE}, {2, 10, 1, 1, NONE, NONE, NONE, 0},
        };
        for (int place = 0; place < want.length; place++) {
            int at = place;
            for (int what = 0; what < 8; what++) {
                int of = what;
                query.due("message(" + place + ", " + what + ")", want[place][what], x -> x.message(at, of));
            }
        }
        Stage probe = Stage.of("hosts a b;types u t;service b t y 6 90;", 1);
        int[] ofProbe = {0, 0, 1, 1, 0, 6, NONE, NONE};
        for (int what = 0; what < 8; what++) {
            int of = what;
            probe.due("message(0, " + what + ")", ofProbe[what], x -> x.message(0, of));
        }
        // The query of 14 knows one answer, the other service is b's own.
        Stage known = Stage.of("hosts a b;types u t;service b t y 6 90;service a t x 5 80;browse b t;", 15);
        known.due("known answers", 1, x -> x.message(0, 7));
        // Service 0 is x-2 and probes at 8.
        Stage renamed = new Stage("a new object", LinkDirectory::new).behind("9 ticks", x -> x.pass(9));
        renamed.due("the NUMBER of a probe", 2, x -> x.message(x.count(6) - 1, 4));
    }

    private static void event(String what, LinkDirectory x, int... want) {
        for (int of = 0; of < want.length; of++) {
            is(what + ": log(0, " + of + ")", want[of], x.log(0, of));
        }
    }

    /** log(): each kind of event with its number, its time, whose it is, and the NUMBER or the kind of message. */
    private static void kindsOfEvents() {
        LinkDirectory x = new LinkDirectory();
        event("lost", Stage.passed(x, 2), 1, 1, 0, 0);
        event("renamed", Stage.passed(x, 6), 0, 7, 0, 2);
        event("established", Stage.passed(x, 3), 3, 10, 1, 0);
        event("established", Stage.passed(x, 8), 3, 18, 0, 2);
        event("suppressed", Stage.passed(x, 13), 5, 31, 1, 0);
        LinkDirectory y = Scenes.joined(5, 6);
        y.setPort(1, 6);
        event("conflict", Stage.passed(y, 2), 2, 13, 0, 0);
        LinkDirectory z = Check.loaded("hosts a b;types t;service b t y 6 20;browse b t;lose 0 3 5;");
        event("a probe is lost", Stage.passed(z, 1), 6, 0, 0, 0);
        event("a query is lost", Stage.passed(z, 2), 6, 2, 3, 2);
        event("a response is lost", Stage.passed(z, 4), 6, 6, 5, 1);
        event("the record of a expires", Stage.passed(z, 25), 4, 31, 0, 0);
    }

    // ---- promises 19 to 24

    /** known(): "the PORT of the record (perhaps an old one); NONE if the host has no such record". */
    private static void known() {
        one(7).shown("before the response comes", NONE, x -> x.known(1, 0));
        one(8).shown("behind it", 5, x -> x.known(1, 0));
        one(111).shown("the last tick of the record", 5, x -> x.known(1, 0));
        one(112).shown("behind its end", NONE, x -> x.known(1, 0));
        Stage changed = one(20).behind("another PORT", x -> x.setPort(0, 6));
        changed.due("an old one", 5, x -> x.known(1, 0));
        changed.due("the PORT of the service", 6, x -> x.service(0, 3));
        changed.behind("a tick", x -> x.pass(1)).due("not yet come", 5, x -> x.known(1, 0));
        changed.behind("two ticks", x -> x.pass(2)).due("the new one", 6, x -> x.known(1, 0));
        // Of two services with the same name and PORT, the record is that of one host.
        Stage two = new Stage("two", () -> {
            LinkDirectory x = Check.loaded("hosts a b c;types t;service a t x 6 100;service b t x 6 100;");
            x.setSide(0, 1);
            return Stage.passed(x, 12);
        });
        two.shown("that of b", 6, x -> x.known(2, 1));
        two.shown("not that of a", NONE, x -> x.known(2, 0));
    }

    /** All of six hosts hear, keep and forget. */
    private static void sixHosts() {
        for (int host = 0; host < 6; host++) {
            int of = host;
            Stage six = Stage.of("hosts a b c d e f;types t;service " + "abcdef".charAt(host) + " t x 5 20;", 12);
            for (int other = 0; other < 6; other++) {
                int at = other;
                int records = other == host ? 0 : 1;
                six.due("records of " + other, records, x -> x.host(at, 3));
                six.due("known to " + other, records == 1 ? 5 : NONE, x -> x.known(at, 0));
                six.due("20 ticks later", 0, x -> Stage.passed(x, 20).host(at, 3));
            }
            covers(six, "five of five", 1.0);
            six.due("stale at five hosts", 5, x -> off(x, of) * 0 + x.stale());
        }
    }

    /** stale(): a service that is announcing or established, with name and PORT, and whose host is on. */
    private static void stale() {
        for (int ticks = 0; ticks <= 13; ticks++) {
            one(ticks).due("stale", 0, LinkDirectory::stale);
        }
        one(12).behind("another PORT", x -> x.setPort(0, 6)).due("another PORT", 1, LinkDirectory::stale);
        one(12).behind("the same PORT", x -> x.setPort(0, 5)).due("the same PORT", 0, LinkDirectory::stale);
        one(12).behind("withdrawn", x -> x.withdraw(0)).due("withdrawn", 1, LinkDirectory::stale);
        one(12).behind("off", x -> off(x, 0)).due("its host is off", 1, LinkDirectory::stale);
        one(12).behind("on the other side", x -> x.setSide(0, 1)).due("on the other side", 0, LinkDirectory::stale);
        Stage on = one(12).behind("off and on", x -> off(x, 0) + x.setOn(0, true, false));
        on.due("probing", 1, LinkDirectory::stale);
        on.due("probing for 6 ticks", 1, x -> Stage.passed(x, 6).stale());
        on.due("announcing", 0, x -> Stage.passed(x, 7).stale());
        on.due("established", 0, x -> Stage.passed(x, 11).stale());
        // Each host that has the record counts.
        Stage.of("hosts a b c d;types t;service a t x 5 100;service a t y 5 100;", 12)
            .behind("off", x -> off(x, 0)).due("two records at three hosts", 6, LinkDirectory::stale);
        // The same name and PORT at another host is another service.
        Stage two = new Stage("two", () -> {
            LinkDirectory x = Check.loaded("hosts a b c;types t;service a t x 6 100;service b t x 6 100;");
            x.setSide(0, 1);
            x.setSide(2, 1);
            Stage.passed(x, 12);
            x.withdraw(0);
            return x;
        });
        two.due("c has the record of a", 1, LinkDirectory::stale);
    }

    /** clashes(): pairs that are both announcing or established, on, and on the same SIDE. */
    private static void clashes() {
        for (int ticks = 0; ticks <= 12; ticks++) {
            int passed = ticks;
            Stage met = new Stage("met at " + ticks, () -> {
                LinkDirectory x = Check.loaded(TWO_SIDES);
                x.setSide(0, 1);
                Stage.passed(x, passed);
                x.setSide(0, 0);
                return x;
            });
            int clash = passed > 6 ? 1 : 0;
            met.due("clashes", clash, LinkDirectory::clashes);
            met.due("on two sides", 0, x -> x.setSide(1, 1) + x.clashes());
            met.due("both on side 1", clash, x -> x.setSide(1, 1) + x.setSide(0, 1) + x.clashes());
            met.due("one is off", 0, x -> off(x, 1) + x.clashes() - 1);
            met.due("the other one is off", 0, x -> off(x, 0) + x.clashes() - 1);
            met.due("one is withdrawn", 0, x -> x.withdraw(0) * 0 + x.clashes());
            met.due("the other one is withdrawn", 0, x -> x.withdraw(1) * 0 + x.clashes());
        }
        // Six services with one name: fifteen pairs.
        StringBuilder text = new StringBuilder("hosts a b c d e f;types t;");
        for (int host = 0; host < 6; host++) {
            text.append("service ").append("abcdef".charAt(host)).append(" t x 5 100;");
        }
        text.append("lose");
        for (int message = 0; message < 30; message++) {
            text.append(' ').append(message);
        }
        Stage six = Stage.of(text + ";", 11);
        six.due("pairs", 15, LinkDirectory::clashes);
        six.due("one is off", 10, x -> off(x, 5) * 0 + x.clashes());
        six.due("two sides of three", 6, x -> x.setSide(0, 1) + x.setSide(1, 1) + x.setSide(2, 1) + x.clashes());
    }

    private static long bits(double coverage) {
        return Double.doubleToLongBits(coverage);
    }

    private static void covers(Stage stage, String what, double want) {
        stage.shown(what, bits(want), x -> bits(x.coverage()));
    }

    /** coverage(): "0.0 without any" pair. */
    private static void noPairs() {
        covers(Stage.of("hosts a;types t;", 0), "no service", 0.0);
        covers(Stage.of("hosts a;types t;service a t x 5 100;", 20), "no other host", 0.0);
        covers(one(0), "probing", 0.0);
        covers(one(10), "announcing, and known", 0.0);
        covers(one(11), "established, and known", 1.0);
        covers(one(12).behind("b is off", x -> off(x, 1)), "b is off", 0.0);
        covers(one(12).behind("a is off", x -> off(x, 0)), "a is off", 0.0);
        covers(one(12).behind("two sides", x -> x.setSide(1, 1)), "two sides", 0.0);
        covers(one(12).behind("another PORT", x -> x.setPort(0, 6)), "announcing again", 0.0);
        covers(one(12).behind("withdrawn", x -> x.withdraw(0)), "withdrawn", 0.0);
    }

    private static void coverage() {
        covers(one(12), "one of one", 1.0);
        covers(one(12).behind("b is off and on", x -> off(x, 1) + x.setOn(1, true, false)), "none of one", 0.0);
        Stage seven = Stage.of("hosts a b c d;types t;service a t x 5 100;service d t y 5 100;service d t z 5 100;", 12);
        covers(seven, "nine of nine", 1.0);
        for (int host = 1; host <= 3; host++) {
            int at = host;
            Stage less = seven.behind(host + " is off and on", x -> off(x, at) + x.setOn(at, true, false));
            // If it is d that was off, its own two services do not count until they are established again.
            covers(less, "some of them", host == 3 ? 2.0 / 3.0 : 6.0 / 9.0);
        }
        covers(seven.behind("c is off", x -> off(x, 2)), "six of six", 1.0);
        covers(seven.behind("c is on the other side", x -> x.setSide(2, 1)), "six of six", 1.0);
        Stage late = seven.behind("b and c were off", x -> off(x, 1) + off(x, 2) + x.setOn(1, true, false)
            + x.setOn(2, true, false));
        covers(late, "three of nine", 3.0 / 9.0);
        // Known with an old PORT is not known: the response is lost, and the one of being established again.
        Stage old = one(12).behind("lost", x -> x.mark(5) + x.mark(6)).behind("another PORT", x -> x.setPort(0, 6));
        covers(old.behind("5 ticks", x -> x.pass(5)), "an old PORT", 0.0);
    }

    /** why(): the reasons and their causes, and the ticks between which they change. */
    private static void why() {
        int[] reasons = {5, 5, 5, 5, 5, 5, 5, 3, 3, 3, 3, 0, 0};
        int[] causes = {3, 2, 2, 1, 1, 0, 0, 3, 2, 1, 0, NONE, NONE};
        for (int ticks = 0; ticks < reasons.length; ticks++) {
            one(ticks).shown("the reason", reasons[ticks], x -> x.why(0, 0));
            one(ticks).shown("the cause", causes[ticks], x -> x.why(0, 1));
            Stage off = one(ticks).behind("off", x -> off(x, 0));
            off.due("the reason of a host that is off", ticks < 11 ? 2 : 0, x -> x.why(0, 0));
            off.due("its cause", NONE, x -> x.why(0, 1));
            Stage withdrawn = one(ticks).behind("withdrawn", x -> x.withdraw(0));
            withdrawn.due("the reason of a withdrawn one", 1, x -> x.why(0, 0));
            withdrawn.due("its cause", NONE, x -> x.why(0, 1));
            withdrawn.due("off, too", 1, x -> off(x, 0) * 0 + x.why(0, 0));
        }
    }

    /** haveSameName(): BASE, NUMBER and type, whatever the state. */
    private static void sameNames() {
        Stage names = Stage.of("hosts a b;types t u;service a t x 5 100;service b t x 5 100;service b u x 5 100;"
            + "service b t xx 5 100;", 0);
        long[] same = {1, 1, 0, 0};
        for (int other = 0; other < 4; other++) {
            int at = other;
            names.due("service 0 and " + other, same[other], x -> x.haveSameName(0, at) ? 1 : 0);
            names.due("service " + other + " and 0", same[other], x -> x.haveSameName(at, 0) ? 1 : 0);
            names.due("service " + other + " and itself", 1, x -> x.haveSameName(at, at) ? 1 : 0);
        }
        names.due("withdrawn", 1, x -> x.withdraw(1) + (x.haveSameName(0, 1) ? 1 : 0));
        Stage renamed = new Stage("a new object", LinkDirectory::new);
        renamed.due("before the renaming", 1, x -> Stage.passed(x, 7).haveSameName(0, 1) ? 1 : 0);
        renamed.due("behind it", 0, x -> Stage.passed(x, 8).haveSameName(0, 1) ? 1 : 0);
    }

    // ---- promise 31

    private static void writes(Stage stage, String want) {
        Stage written = stage.behind("write()", LinkDirectory::write);
        stage.due("write()", want.length(), LinkDirectory::write);
        Check.same("the output", want, Check.outputOf(written.make()));
    }

    /** "A hyphen and NUMBER in decimal digits if it is not 0", and the state as a byte. */
    private static void write() {
        writes(Stage.of("hosts a;types t;", 0), "");
        char[] states = "pppppppaaaae".toCharArray();
        for (int ticks = 0; ticks < states.length; ticks++) {
            writes(one(ticks), "x.t " + states[ticks] + "\n");
            writes(one(ticks).behind("withdrawn", x -> x.withdraw(0)), "x.t w\n");
            writes(one(ticks).behind("off", x -> off(x, 0)), "x.t " + states[ticks] + "\n");
        }
        StringBuilder want = new StringBuilder("abcdef.tuvwxy e\n");
        Stage many = Stage.of("hosts a b;types tuvwxy;service a tuvwxy abcdef 5 50;", 12);
        for (int number = 2; number <= 12; number++) {
            many = many.behind("one more", x -> {
                Check.put(x, "abcdef");
                x.add(1, 0, 5, 50);
                return x.pass(3);
            });
            want.append("abcdef-").append(number).append(".tuvwxy p\n");
            if (number > 8) {
                Stage all = many;
                Check.same("NUMBERs up to " + number, states(want.toString(), all.make()), Check.outputOf(all
                    .behind("write()", LinkDirectory::write).make()));
            }
        }
        // A shorter output in place of a longer one.
        Stage shorter = many.behind("write()", LinkDirectory::write).behind("load()", x -> Check.load(x, ONE));
        shorter.due("the length", 6, LinkDirectory::write);
        shorter.behind("write()", LinkDirectory::write).due("no byte of before", Check.THROWS_INDEX, x -> x.outputByte(6));
        shorter.behind("write()", LinkDirectory::write).due("the last byte", '\n', x -> x.outputByte(5));
    }

    /** The text with the state of each service as it is. */
    private static String states(String text, LinkDirectory x) {
        StringBuilder with = new StringBuilder();
        int service = 0;
        for (String line : text.split("\n")) {
            with.append(line, 0, line.length() - 1).append("paew".charAt(x.service(service, 5))).append('\n');
            service++;
        }
        return with.toString();
    }
}
