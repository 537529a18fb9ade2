/** Promises 19 to 24: what hosts know. */
public final class KnowledgeTest {
    private static final int NONE = LinkDirectory.NONE;
    private static final long INDEX = Check.THROWS_INDEX;
    private static final long ARGUMENT = Check.THROWS_ARGUMENT;

    private KnowledgeTest() {
    }

    public static void main(String[] args) {
        known();
        records();
        stale();
        clashes();
        coverage();
        why();
        wrongArguments();
        Check.end();
    }

    private static void known() {
        LinkDirectory x = Check.loaded("hosts a b c;types t;service a t x 80 100;service b t y 7 100;");
        Check.due("nothing at first", NONE, () -> x.known(1, 0));
        x.pass(7);
        Check.due("not before the response comes", NONE, () -> x.known(1, 0));
        x.pass(1);
        Check.due("b knows x", 80, () -> x.known(1, 0));
        Check.due("c knows x", 80, () -> x.known(2, 0));
        Check.due("a does not know its own", NONE, () -> x.known(0, 0));
        Check.due("a knows y", 7, () -> x.known(0, 1));
        x.setPort(0, 81);
        Check.due("an old one", 80, () -> x.known(1, 0));
        x.pass(2);
        Check.due("the new one", 81, () -> x.known(1, 0));
        x.withdraw(0);
        Check.due("a withdrawn service is known, too", 81, () -> x.known(1, 0));
        x.pass(2);
        Check.due("as long as its record lives", 81, () -> x.known(1, 0));
        x.pass(1);
        Check.due("but no longer", NONE, () -> x.known(1, 0));
        // The record must have the host of the service in its DATA: that of b is no record of a's service.
        LinkDirectory y = Check.loaded("hosts a b c;types t;service a t x 5 100;service b t x 6 100;");
        y.setSide(0, 1);
        y.pass(12);
        Check.due("c knows that of b", 6, () -> y.known(2, 1));
        Check.due("but not that of a with the same name", NONE, () -> y.known(2, 0));
        // The name of a renamed service is another one.
        LinkDirectory z = new LinkDirectory();
        z.pass(12);
        Check.due("a knows b", 90, () -> z.known(0, 1));
        Check.due("b does not know a yet", NONE, () -> z.known(1, 0));
        z.pass(7);
        Check.due("b knows a", 80, () -> z.known(1, 0));
    }

    private static void records() {
        LinkDirectory x = Check.loaded("hosts a b;types t u v;service a t x 80 100;service a u y 7 100;"
            + "service a t z 7 100;");
        Check.due("none at first", 0, () -> x.records(1, 0));
        x.pass(8);
        Check.due("of t", 2, () -> x.records(1, 0));
        Check.due("of u", 1, () -> x.records(1, 1));
        Check.due("of v", 0, () -> x.records(1, 2));
        Check.due("of a itself", 0, () -> x.records(0, 0));
        x.setOn(1, false, false);
        Check.due("of a host that is off", 0, () -> x.records(1, 0));
    }

    private static LinkDirectory established() {
        LinkDirectory x = Check.loaded("hosts a b c;types t;service a t x 80 100;service b t y 7 100;");
        x.pass(12);
        return x;
    }

    private static void stale() {
        LinkDirectory x = established();
        Check.due("all four are good", 0, x::stale);
        x.setPort(0, 81);
        Check.due("another PORT: at b and at c", 2, x::stale);
        x.pass(2);
        Check.due("good again", 0, x::stale);
        x.withdraw(1);
        Check.due("withdrawn: at a and at c", 2, x::stale);
        x.undo();
        x.setOn(1, false, false);
        Check.due("its host is off", 2, x::stale);
        x.setOn(1, true, false);
        Check.due("it probes", 2, x::stale);
        x.pass(7);
        Check.due("it announces", 0, x::stale);
        LinkDirectory y = Check.loaded("hosts a b c;types t;service a t x 5 100;service b t x 6 100;");
        y.setSide(0, 1);
        y.pass(12);
        y.setSide(0, 0);
        y.setPort(1, 6);
        y.pass(5);
        // Service a x lost its name to that of b; c has the record of b.
        Check.due("renamed", 2, () -> y.service(0, 2));
        Check.due("the record of b is good at a and at c", 0, y::stale);
        LinkDirectory z = Check.loaded("hosts a b c;types t;service a t x 5 100;service b t x 6 100;");
        z.setSide(1, 1);
        z.setSide(2, 0);
        z.pass(12);
        z.setSide(0, 1);
        z.setPort(1, 6);
        z.pass(5);
        // c is on the other SIDE and keeps the record of a, whose service is x-2 now.
        Check.due("the old name at c", 1, z::stale);
    }

    private static void clashes() {
        LinkDirectory x = Check.loaded("hosts a b c;types t u;service a t x 5 100;service b t x 6 100;"
            + "service c t x 7 100;service a u x 5 100;");
        x.setSide(1, 1);
        x.setOn(2, false, false);
        x.pass(7);
        Check.due("on two sides", 0, x::clashes);
        x.setSide(1, 0);
        Check.due("both announcing", 1, x::clashes);
        x.setSide(1, 1);
        x.pass(5);
        x.setSide(1, 0);
        Check.due("both established", 1, x::clashes);
        x.setOn(1, false, false);
        Check.due("one is off", 0, x::clashes);
        x.undo();
        x.withdraw(0);
        Check.due("one is withdrawn", 0, x::clashes);
        x.undo();
        x.setSide(0, 1);
        x.setSide(1, 1);
        Check.due("both on side 1", 1, x::clashes);
        x.setPort(1, 7);
        x.pass(2);
        Check.due("solved", 0, x::clashes);
        LinkDirectory y = Check.loaded("hosts a b c;types t;service a t x 5 100;service b t x 6 100;"
            + "service c t x 7 100;service a t z 5 100;service b t z 5 100;");
        Check.due("none announces yet", 0, y::clashes);
        y.setSide(0, 1);
        y.setSide(1, 1);
        y.setOn(1, false, false);
        y.pass(12);
        y.setSide(0, 0);
        Check.due("a pair", 1, y::clashes);
        LinkDirectory z = Check.loaded("hosts a b c d;types t;service a t x 5 100;service b t x 6 100;"
            + "service c t x 7 100;lose 0 1 2 3 4 5 6 7 8 9 10 11 12 13 14;");
        z.pass(11);
        Check.due("three pairs of three services", 3, z::clashes);
    }

    private static void coverage() {
        LinkDirectory x = Check.loaded("hosts a b c;types t;service a t x 80 100;service b t y 7 100;lose 7;");
        Check.dueDouble("nothing is established", 0.0, x.coverage());
        x.pass(10);
        // The response of y at 6 is lost (message 7): three hosts... x is known to b and c, but not established.
        Check.dueDouble("announcing does not count", 0.0, x.coverage());
        x.pass(1);
        Check.dueDouble("x is known to b and c, y to none", 0.5, x.coverage());
        x.pass(1);
        Check.dueDouble("all", 1.0, x.coverage());
        x.setSide(2, 1);
        Check.dueDouble("other sides do not count", 1.0, x.coverage());
        x.setSide(2, 0);
        x.setOn(2, false, false);
        Check.dueDouble("hosts that are off do not count", 1.0, x.coverage());
        x.setOn(2, true, false);
        Check.dueDouble("c knows nothing any more", 0.5, x.coverage());
        x.setOn(0, false, false);
        // y of b is established, c does not know it; x does not count, for a is off.
        Check.dueDouble("only c and y are left", 0.0, x.coverage());
        LinkDirectory y = Check.loaded("hosts a b c d;types t;service a t x 80 100;");
        y.pass(12);
        y.setOn(3, false, false);
        y.setOn(3, true, false);
        Check.dueDouble("two of three", 2.0 / 3.0, y.coverage());
        y.setPort(0, 81);
        Check.dueDouble("it is announcing", 0.0, y.coverage());
        LinkDirectory z = established();
        // The change of the PORT is lost twice, so that b and c know an old one.
        z.mark(z.count(4));
        z.mark(z.count(4) + 1);
        z.setPort(0, 81);
        z.pass(5);
        Check.due("it is established", 2, () -> z.service(0, 5));
        Check.dueDouble("an old PORT is not known", 0.5, z.coverage());
    }

    private static void why() {
        LinkDirectory x = new LinkDirectory();
        reason(x, 0, 5, 3);
        x.pass(1);
        reason(x, 0, 5, 2);
        x.pass(1);
        // It lost at 1: ALARM is 5.
        reason(x, 0, 4, 3);
        x.pass(2);
        reason(x, 0, 4, 1);
        x.pass(1);
        reason(x, 0, 5, 3);
        reason(x, 1, 5, 0);
        x.pass(2);
        reason(x, 1, 3, 3);
        x.pass(3);
        reason(x, 1, 3, 0);
        x.pass(1);
        reason(x, 1, 0, NONE);
        x.setOn(0, false, true);
        reason(x, 0, 2, NONE);
        x.withdraw(0);
        reason(x, 0, 1, NONE);
        x.setOn(1, false, true);
        reason(x, 1, 0, NONE);
        x.setOn(1, true, true);
        reason(x, 1, 5, 3);
        LinkDirectory y = Check.loaded("hosts a b;types t;service a t x 80 100;service b t x 90 100;");
        y.pass(7);
        y.setOn(1, false, false);
        reason(y, 1, 2, NONE);
    }

    private static void reason(LinkDirectory x, int service, int reason, int cause) {
        Check.due("why(" + service + ", 0)", reason, () -> x.why(service, 0));
        Check.due("why(" + service + ", 1)", cause, () -> x.why(service, 1));
    }

    private static void wrongArguments() {
        new Stage("established", KnowledgeTest::established).unchangedBy("asking", KnowledgeTest::askWrong);
    }

    private static long askWrong(LinkDirectory x) {
        for (int wrong : new int[] {-1, 3, 100, Integer.MIN_VALUE, Integer.MAX_VALUE}) {
            Check.due("known: host", INDEX, () -> x.known(wrong, 0));
            Check.due("known: service", INDEX, () -> x.known(0, wrong));
            Check.due("records: host", INDEX, () -> x.records(wrong, 0));
            Check.due("records: type", INDEX, () -> x.records(0, wrong));
            Check.due("why: service", INDEX, () -> x.why(wrong, 0));
            Check.due("why: depth", ARGUMENT, () -> x.why(0, wrong));
            Check.due("why: both", INDEX, () -> x.why(wrong, wrong));
        }
        Check.due("known: the third service", INDEX, () -> x.known(0, 2));
        Check.due("records: the second type", INDEX, () -> x.records(0, 1));
        Check.due("why: the third service", INDEX, () -> x.why(2, 1));
        Check.due("why: depth 2", ARGUMENT, () -> x.why(0, 2));
        x.stale();
        x.clashes();
        x.coverage();
        return 0;
    }
}
