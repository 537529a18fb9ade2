/** Promises 8 to 18: what there is. */
public final class ReportTest {
    private static final int NONE = LinkDirectory.NONE;
    private static final long INDEX = Check.THROWS_INDEX;
    private static final long ARGUMENT = Check.THROWS_ARGUMENT;

    private ReportTest() {
    }

    public static void main(String[] args) {
        count();
        host();
        service();
        baseByte();
        haveSameName();
        record();
        recordByte();
        browser();
        message();
        isMarked();
        log();
        wrongArguments();
        Check.end();
    }

    private static void count() {
        LinkDirectory x = new LinkDirectory();
        x.mark(1);
        x.pass(1);
        // Two probes and a query were sent; the probe of service 1, number 1, was lost.
        counts(x, new int[] {2, 1, 2, 1, 3, 1, 2, 1, 0, 0, 1, 2});
        x.pass(6);
        // Both services probed at 2 (6 messages so far: 0, 1, 2 at time 0, then the probes and a query at 2).
        Check.due("time", 7, () -> x.count(3));
        x.browse(1, 0, true);
        Check.due("browsers", 2, () -> x.count(7));
        Check.due("changes", 4, () -> x.count(11));
        x.setOn(1, false, true);
        Check.due("browsers of a host that is off", 1, () -> x.count(7));
        Check.put(x, "w");
        x.add(0, 0, 5, 20);
        Check.due("services", 3, () -> x.count(2));
        x.withdraw(2);
        Check.due("withdrawn services count", 3, () -> x.count(2));
        for (int times = 0; times < 5; times++) {
            x.setSide(0, 0);
        }
        Check.due("at most 8 changes", 8, () -> x.count(11));
        LinkDirectory y = new LinkDirectory();
        y.pass(8);
        Check.due("renamings", 1, () -> y.count(8));
        Check.due("conflicts", 0, () -> y.count(9));
        LinkDirectory z = Check.loaded("hosts a b;types t;service a t x 5 100;service b t x 6 100;");
        z.setSide(1, 1);
        z.pass(12);
        z.setSide(1, 0);
        z.setPort(1, 7);
        z.pass(2);
        Check.due("conflicts", 1, () -> z.count(9));
    }

    private static void counts(LinkDirectory x, int[] want) {
        for (int what = 0; what < want.length; what++) {
            int at = what;
            Check.due("count(" + what + ")", want[what], () -> x.count(at));
        }
    }

    private static void host() {
        LinkDirectory x = Check.loaded("hosts a b c;types t u;service a t x 5 100;service a u x 6 100;"
            + "service b t y 7 100;browse c t;browse c u;browse b t;");
        hostIs(x, 0, 1, 0, 2, 0, 0, 0);
        hostIs(x, 2, 1, 0, 0, 0, 2, 0);
        x.pass(11);
        // Each service sent 3 probes, a response at 6 and one at 10; the browsers asked at 0, 2 and 6. All three
        // services answer the queries of time 6 at time 7 (c asks for both types, b for t).
        Check.due("records of c", 3, () -> x.host(2, 3));
        Check.due("queries of c", 6, () -> x.host(2, 5));
        // a: 2 * 5 messages; service 0 answers b and c at 7, service 1 answers c.
        Check.due("messages of a", 13, () -> x.host(0, 5));
        x.withdraw(1);
        Check.due("services of a", 1, () -> x.host(0, 2));
        Check.due("the goodbye", 14, () -> x.host(0, 5));
        x.setSide(2, 1);
        Check.due("side", 1, () -> x.host(2, 1));
        x.setOn(2, false, true);
        hostIs(x, 2, 0, 1, 0, 0, 0, 6);
        LinkDirectory y = Check.loaded("hosts a;types t;service a t x 5 100;lose 0;");
        y.pass(1);
        Check.due("a lost message was sent", 1, () -> y.host(0, 5));
    }

    private static void hostIs(LinkDirectory x, int host, int... want) {
        for (int what = 0; what < want.length; what++) {
            int at = what;
            Check.due("host(" + host + ", " + what + ")", want[what], () -> x.host(host, at));
        }
    }

    private static void serviceIs(LinkDirectory x, int service, int... want) {
        for (int what = 0; what < want.length; what++) {
            int at = what;
            Check.due("service(" + service + ", " + what + ")", want[what], () -> x.service(service, at));
        }
    }

    private static void service() {
        LinkDirectory x = Check.loaded("hosts a b;types t u;service b u x 81 101;");
        serviceIs(x, 0, 1, 1, 0, 81, 101, 0, 0, 0, 0, 0, 0);
        x.pass(1);
        serviceIs(x, 0, 1, 1, 0, 81, 101, 0, 1, 2, 0, 0, 0);
        x.pass(4);
        serviceIs(x, 0, 1, 1, 0, 81, 101, 0, 3, 6, 0, 0, 0);
        x.pass(2);
        serviceIs(x, 0, 1, 1, 0, 81, 101, 1, 3, 10, 0, 0, 0);
        x.pass(4);
        serviceIs(x, 0, 1, 1, 0, 81, 101, 2, 3, NONE, 0, 0, 0);
        x.withdraw(0);
        serviceIs(x, 0, 1, 1, 0, 81, 101, 3, 3, NONE, 0, 0, 0);
        LinkDirectory y = new LinkDirectory();
        y.pass(2);
        Check.due("lost", 1, () -> y.service(0, 9));
        Check.due("not lost", 0, () -> y.service(1, 9));
        y.pass(6);
        serviceIs(y, 0, 0, 0, 2, 80, 100, 0, 0, 8, 1, 1, 0);
        LinkDirectory z = Check.loaded("hosts a b;types t;service a t x 5 100;service b t x 6 100;");
        z.setSide(1, 1);
        z.pass(12);
        z.setSide(1, 0);
        z.setPort(1, 7);
        z.pass(2);
        Check.due("conflict", 1, () -> z.service(0, 10));
        Check.due("no conflict", 0, () -> z.service(1, 10));
    }

    private static void baseByte() {
        LinkDirectory x = Check.loaded("hosts a;types t;service a t azbycx 5 100;service a t q 5 100;");
        String base = "azbycx";
        for (int place = 0; place < 6; place++) {
            int at = place;
            Check.due("baseByte(0, " + place + ")", base.charAt(place), () -> x.baseByte(0, at));
        }
        for (int place : new int[] {-1, 6, 7, 32, Integer.MIN_VALUE, Integer.MAX_VALUE}) {
            Check.due("no such place", NONE, () -> x.baseByte(0, place));
        }
        Check.due("the first of one", 'q', () -> x.baseByte(1, 0));
        Check.due("behind it", NONE, () -> x.baseByte(1, 1));
        Check.due("no such service", INDEX, () -> x.baseByte(2, 0));
        Check.due("no such service", INDEX, () -> x.baseByte(-1, 0));
    }

    private static void haveSameName() {
        LinkDirectory x = Check.loaded("hosts a b;types t u;service a t x 5 100;service b t x 6 100;"
            + "service a u x 5 100;service a t y 5 100;");
        Check.due("the same", 1, () -> x.haveSameName(0, 1) ? 1 : 0);
        Check.due("the other way round", 1, () -> x.haveSameName(1, 0) ? 1 : 0);
        Check.due("itself", 1, () -> x.haveSameName(2, 2) ? 1 : 0);
        Check.due("another type", 0, () -> x.haveSameName(0, 2) ? 1 : 0);
        Check.due("another BASE", 0, () -> x.haveSameName(0, 3) ? 1 : 0);
        x.withdraw(1);
        Check.due("withdrawn", 1, () -> x.haveSameName(0, 1) ? 1 : 0);
        LinkDirectory y = new LinkDirectory();
        y.pass(8);
        Check.due("another NUMBER", 0, () -> y.haveSameName(0, 1) ? 1 : 0);
        for (int wrong : new int[] {-1, 4, Integer.MIN_VALUE, Integer.MAX_VALUE}) {
            Check.due("no such service", INDEX, () -> x.haveSameName(wrong, 0) ? 1 : 0);
            Check.due("no such other", INDEX, () -> x.haveSameName(0, wrong) ? 1 : 0);
        }
    }

    private static LinkDirectory withRecords() {
        LinkDirectory x = Check.loaded("hosts a b;types u t;service a t xyz 80 100;service a u w 7 50;browse b t;");
        x.pass(11);
        return x;
    }

    private static void record() {
        LinkDirectory x = withRecords();
        x.pass(1);
        // The responses of time 10 come at 11.
        int[][] want = {{1, 0, 80, 0, 100, 11, 0, 111}, {0, 0, 7, 0, 50, 11, 0, 61}};
        for (int place = 0; place < 2; place++) {
            for (int what = 0; what < 8; what++) {
                int at = place;
                int of = what;
                Check.due("record(1, " + place + ", " + what + ")", want[at][of], () -> x.record(1, at, of));
            }
        }
        LinkDirectory y = new LinkDirectory();
        y.pass(18);
        // Host b has the record of the renamed service.
        Check.due("NUMBER", 2, () -> y.record(1, 0, 1));
        LinkDirectory z = Check.loaded("hosts a b;types t;service a t x 80 20;browse b t;");
        z.pass(28);
        // BORN is 11, and 80 of 100 parts of 20 ticks are over at 27.
        Check.due("AGE", 1, () -> z.record(1, 0, 6));
    }

    private static void recordByte() {
        LinkDirectory x = withRecords();
        Check.due("x", 'x', () -> x.recordByte(1, 0, 0));
        Check.due("y", 'y', () -> x.recordByte(1, 0, 1));
        Check.due("z", 'z', () -> x.recordByte(1, 0, 2));
        Check.due("w", 'w', () -> x.recordByte(1, 1, 0));
        for (int letter : new int[] {-1, 3, 6, Integer.MIN_VALUE, Integer.MAX_VALUE}) {
            Check.due("no such letter", NONE, () -> x.recordByte(1, 0, letter));
        }
        Check.due("behind one letter", NONE, () -> x.recordByte(1, 1, 1));
        Check.due("no such host", INDEX, () -> x.recordByte(2, 0, 0));
        Check.due("no such place", INDEX, () -> x.recordByte(1, 2, 0));
        Check.due("a negative place", INDEX, () -> x.recordByte(1, -1, 0));
        Check.due("an empty cache", INDEX, () -> x.recordByte(0, 0, 0));
    }

    private static void browser() {
        LinkDirectory x = Check.loaded("hosts a b;types t u;service a u x 80 20;browse b u;");
        browserIs(x, 1, 1, 0, 2, 0, 0);
        browserIs(x, 1, 0, NONE, NONE, NONE, NONE);
        browserIs(x, 0, 1, NONE, NONE, NONE, NONE);
        x.pass(1);
        browserIs(x, 1, 1, 2, 4, 1, 0);
        x.pass(2);
        browserIs(x, 1, 1, 6, 8, 2, 0);
        x.pass(4);
        browserIs(x, 1, 1, 14, 16, 3, 0);
        x.pass(8);
        browserIs(x, 1, 1, 30, 32, 4, 0);
        // The record is born at 15 at the latest (the query of 14 is not suppressed: 11 + 20 - 14 > 10 fails not).
        x.pass(13);
        browserIs(x, 1, 1, 30, 32, 5, 1);
        x.browse(1, 1, false);
        browserIs(x, 1, 1, NONE, NONE, NONE, NONE);
        x.browse(1, 1, true);
        browserIs(x, 1, 1, 28, 2, 0, 0);
        LinkDirectory y = Check.loaded("hosts a;types t;browse a t;");
        y.pass(100);
        // It asks at 0, 2, 6, 14, 30, 62, and from 126 on every 64 ticks.
        browserIs(y, 0, 0, 126, 64, 6, 0);
        y.pass(100);
        browserIs(y, 0, 0, 254, 64, 8, 0);
    }

    private static void browserIs(LinkDirectory x, int host, int type, int... want) {
        for (int what = 0; what < want.length; what++) {
            int at = what;
            Check.due("browser(" + host + ", " + type + ", " + what + ")", want[what], () -> x.browser(host, type, at));
        }
    }

    private static void message() {
        LinkDirectory x = Check.loaded("hosts a b;types u t;service a t xyz 80 100;browse b t;");
        Check.due("none yet", INDEX, () -> x.message(0, 0));
        x.pass(1);
        messageIs(x, 0, 0, 0, 0, 1, 0, 80, NONE, NONE);
        messageIs(x, 1, 2, 1, 1, 1, NONE, NONE, NONE, 0);
        Check.due("two in all", INDEX, () -> x.message(2, 0));
        x.pass(1);
        Check.due("they came", INDEX, () -> x.message(0, 0));
        x.pass(5);
        // Messages 2 and 3 at 2, 4 at 4; the service announces at 6, and the browser asks.
        messageIs(x, 0, 1, 5, 0, 1, 0, 80, 100, NONE);
        messageIs(x, 1, 2, 6, 1, 1, NONE, NONE, NONE, 0);
        x.pass(8);
        messageIs(x, 0, 2, 9, 1, 1, NONE, NONE, NONE, 1);
        x.setPort(0, 81);
        // The response of the change comes behind the query of the tick, with the number that follows.
        messageIs(x, 1, 1, 10, 0, 1, 0, 81, 100, NONE);
        x.withdraw(0);
        messageIs(x, 2, 1, 11, 0, 1, 0, 81, 0, NONE);
        Check.due("three under way", 3, () -> x.count(6));
        x.pass(1);
        // The messages that the changes sent at 15 come at 16, those of the tick at 14 came at 15.
        messageIs(x, 0, 1, 10, 0, 1, 0, 81, 100, NONE);
        messageIs(x, 1, 1, 11, 0, 1, 0, 81, 0, NONE);
        x.pass(1);
        // The goodbye left a record that has to be refreshed at once.
        messageIs(x, 0, 2, 12, 1, 1, NONE, NONE, NONE, 1);
        Check.due("all others came", 1, () -> x.count(6));
        LinkDirectory y = Check.loaded("hosts a b;types t;service a t x 5 50;service b t y 6 50;lose 0;");
        y.pass(1);
        messageIs(y, 0, 0, 1, 1, 0, 0, 6, NONE, NONE);
        Check.due("a lost message is not there", INDEX, () -> y.message(1, 0));
    }

    private static void messageIs(LinkDirectory x, int place, int... want) {
        for (int what = 0; what < want.length; what++) {
            int at = what;
            Check.due("message(" + place + ", " + what + ")", want[what], () -> x.message(place, at));
        }
    }

    private static void isMarked() {
        LinkDirectory x = Check.loaded("hosts a;types t;service a t x 5 50;lose 0 999;");
        x.mark(1);
        long[] want = {1, 1, 0};
        for (int message = 0; message < 3; message++) {
            int at = message;
            Check.due("isMarked(" + message + ")", want[message], () -> x.isMarked(at) ? 1 : 0);
        }
        Check.due("isMarked(999)", 1, () -> x.isMarked(999) ? 1 : 0);
        Check.due("isMarked(998)", 0, () -> x.isMarked(998) ? 1 : 0);
        x.pass(3);
        Check.due("it was sent", 2, () -> x.count(4));
        Check.due("still marked", 1, () -> x.isMarked(0) ? 1 : 0);
        Check.due("still marked", 1, () -> x.isMarked(1) ? 1 : 0);
        for (int wrong : new int[] {-1, 1000, Integer.MIN_VALUE, Integer.MAX_VALUE}) {
            Check.due("isMarked(" + wrong + ")", ARGUMENT, () -> x.isMarked(wrong) ? 1 : 0);
        }
    }

    private static void log() {
        LinkDirectory x = new LinkDirectory();
        Check.due("no event", INDEX, () -> x.log(0, 0));
        x.pass(8);
        // Service 0 lost at 1; renamed at 7.
        eventIs(x, 0, 0, 7, 0, 2);
        eventIs(x, 1, 1, 1, 0, 0);
        Check.due("two events", INDEX, () -> x.log(2, 0));
        Check.due("a negative event", INDEX, () -> x.log(-1, 0));
        x.pass(3);
        eventIs(x, 0, 3, 10, 1, 0);
        LinkDirectory y = Check.loaded("hosts a b;types t;service a t x 5 20;service b t y 6 100;lose 3 6;");
        y.pass(3);
        // The probes: 0 and 1 at 0, 2 and 3 at 2, 4 and 5 at 4; the responses 6 and 7 at 6.
        eventIs(y, 0, 6, 2, 3, 0);
        y.pass(4);
        eventIs(y, 0, 6, 6, 6, 1);
        y.pass(25);
        // The record of service 0 at host b is born at 11 and expires at 31.
        eventIs(y, 0, 4, 31, 1, 0);
        suppressedAndConflict();
        twentyEvents();
    }

    private static void suppressedAndConflict() {
        LinkDirectory x = Check.loaded("hosts a b;types t;service a t x 5 100;service b t x 6 100;");
        x.setSide(1, 1);
        x.pass(12);
        x.setSide(1, 0);
        x.setPort(1, 7);
        x.pass(2);
        eventIs(x, 0, 2, 13, 0, 0);
        LinkDirectory y = Check.loaded("hosts a b;types t;service a t x 5 100;browse b t;");
        y.pass(16);
        // The query of time 14 knows the answer.
        eventIs(y, 0, 5, 15, 0, 0);
        LinkDirectory z = new LinkDirectory();
        z.pass(19);
        eventIs(z, 0, 3, 18, 0, 2);
    }

    private static void twentyEvents() {
        LinkDirectory x = Check.loaded("hosts a b;types t;service a t x 5 50;service b t y 5 50;service a t z 5 50;"
            + "lose 0 1 2 3 4 5 6 7 8 9 10 11 12 13 14 15 16 17 18 19 20 21 22 23 24;");
        x.pass(9);
        // Three probes at 0, 2 and 4, three responses at 6: all 12 are lost.
        Check.due("events", 12, () -> x.count(10));
        x.pass(2);
        // At 10 three are lost, and three services are established, by turns.
        Check.due("events", 18, () -> x.count(10));
        eventIs(x, 0, 3, 10, 2, 0);
        eventIs(x, 1, 6, 10, 14, 1);
        eventIs(x, 17, 6, 0, 0, 0);
        x.setPort(0, 6);
        x.setPort(1, 6);
        x.setPort(2, 6);
        Check.due("events", 20, () -> x.count(10));
        eventIs(x, 0, 6, 11, 17, 1);
        eventIs(x, 19, 6, 0, 1, 0);
        Check.due("no more than 20", INDEX, () -> x.log(20, 0));
    }

    private static void eventIs(LinkDirectory x, int event, int... want) {
        for (int what = 0; what < want.length; what++) {
            int at = what;
            Check.due("log(" + event + ", " + what + ")", want[what], () -> x.log(event, at));
        }
    }

    /** Wrong arguments, also several at once: the exception that is named first is thrown, and nothing changes. */
    private static void wrongArguments() {
        new Stage("with records", ReportTest::withRecords).unchangedBy("reporting", ReportTest::askWrong);
    }

    private static long askWrong(LinkDirectory x) {
        for (int wrong : new int[] {-1, 12, 100, Integer.MIN_VALUE, Integer.MAX_VALUE}) {
            Check.due("count(" + wrong + ")", ARGUMENT, () -> x.count(wrong));
            Check.due("host(0, " + wrong + ")", ARGUMENT, () -> x.host(0, wrong));
            Check.due("host(" + wrong + ", 0)", INDEX, () -> x.host(wrong, 0));
            Check.due("host of both", INDEX, () -> x.host(wrong, wrong));
            Check.due("service(0, " + wrong + ")", ARGUMENT, () -> x.service(0, wrong));
            Check.due("service(" + wrong + ", 0)", INDEX, () -> x.service(wrong, 0));
            Check.due("service of both", INDEX, () -> x.service(wrong, wrong));
            Check.due("record(1, 0, " + wrong + ")", ARGUMENT, () -> x.record(1, 0, wrong));
            Check.due("record(1, " + wrong + ", 0)", INDEX, () -> x.record(1, wrong, 0));
            Check.due("record(" + wrong + ", 0, 0)", INDEX, () -> x.record(wrong, 0, 0));
            Check.due("record of all", INDEX, () -> x.record(1, wrong, wrong));
            Check.due("browser(1, 1, " + wrong + ")", ARGUMENT, () -> x.browser(1, 1, wrong));
            Check.due("browser that is not", ARGUMENT, () -> x.browser(0, 0, wrong));
            Check.due("browser(1, " + wrong + ", 0)", INDEX, () -> x.browser(1, wrong, 0));
            Check.due("browser(" + wrong + ", 1, 0)", INDEX, () -> x.browser(wrong, 1, 0));
            Check.due("browser of all", INDEX, () -> x.browser(1, wrong, wrong));
            Check.due("message(0, " + wrong + ")", ARGUMENT, () -> x.message(0, wrong));
            Check.due("message(" + wrong + ", 0)", INDEX, () -> x.message(wrong, 0));
            Check.due("message of both", INDEX, () -> x.message(wrong, wrong));
            Check.due("log(0, " + wrong + ")", ARGUMENT, () -> x.log(0, wrong));
            Check.due("log(" + wrong + ", 0)", INDEX, () -> x.log(wrong, 0));
            Check.due("log of both", INDEX, () -> x.log(wrong, wrong));
        }
        Check.due("host(0, 6)", ARGUMENT, () -> x.host(0, 6));
        Check.due("host(2, 0)", INDEX, () -> x.host(2, 0));
        Check.due("service(0, 11)", ARGUMENT, () -> x.service(0, 11));
        Check.due("service(2, 0)", INDEX, () -> x.service(2, 0));
        Check.due("record(1, 0, 8)", ARGUMENT, () -> x.record(1, 0, 8));
        Check.due("record(1, 2, 0)", INDEX, () -> x.record(1, 2, 0));
        Check.due("record(2, 0, 0)", INDEX, () -> x.record(2, 0, 0));
        Check.due("browser(1, 1, 4)", ARGUMENT, () -> x.browser(1, 1, 4));
        Check.due("browser(1, 2, 0)", INDEX, () -> x.browser(1, 2, 0));
        Check.due("browser(2, 1, 0)", INDEX, () -> x.browser(2, 1, 0));
        Check.due("message(0, 8)", ARGUMENT, () -> x.message(0, 8));
        Check.due("log(0, 4)", ARGUMENT, () -> x.log(0, 4));
        return 0;
    }
}
