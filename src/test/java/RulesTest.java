/** The section "Terms": how messages come, and what hosts, services, records and browsers do in a tick. */
public final class RulesTest {
    private static final int NONE = LinkDirectory.NONE;
    private static final String TWO = "hosts a b;types t;service a t x 5 100;service b t x 6 100;";

    private RulesTest() {
    }

    public static void main(String[] args) {
        lifeOfAService();
        whoHears();
        whenChangesCome();
        lostMessages();
        defence();
        losing();
        renaming();
        renamingPastOwnNames();
        conflicts();
        rowOfConflicts();
        records();
        recordsOfManyNames();
        goodbyes();
        expiry();
        asking();
        knownAnswers();
        refreshing();
        orderOfMessages();
        hostsThatAreOff();
        manyMessages();
        manyAnswers();
        Check.end();
    }

    private static void stateIs(LinkDirectory x, int service, int state, int probes, int alarm) {
        Check.due("time " + x.count(3) + ": state of " + service, state, () -> x.service(service, 5));
        Check.due("time " + x.count(3) + ": PROBES of " + service, probes, () -> x.service(service, 6));
        Check.due("time " + x.count(3) + ": ALARM of " + service, alarm, () -> x.service(service, 7));
    }

    private static void lifeOfAService() {
        LinkDirectory x = Check.loaded("hosts a;types t;service a t x 5 100;");
        int[][] states = {{0, 1, 2}, {0, 1, 2}, {0, 2, 4}, {0, 2, 4}, {0, 3, 6}, {0, 3, 6}, {1, 3, 10}, {1, 3, 10},
            {1, 3, 10}, {1, 3, 10}, {2, 3, NONE}, {2, 3, NONE}};
        int[] sent = {1, 0, 1, 0, 1, 0, 1, 0, 0, 0, 1, 0};
        stateIs(x, 0, 0, 0, 0);
        for (int tick = 0; tick < 12; tick++) {
            Check.due("messages in tick " + tick, sent[tick], () -> x.pass(1));
            stateIs(x, 0, states[tick][0], states[tick][1], states[tick][2]);
        }
        Check.due("nothing more", 0, () -> x.pass(100));
    }

    /** Who hears a message is settled as it comes, by the sides and the hosts that are on then. */
    private static void whoHears() {
        String text = "hosts a b c;types t;service a t x 5 100;";
        LinkDirectory x = Check.loaded(text);
        x.pass(7);
        x.setSide(1, 1);
        x.pass(1);
        Check.due("b left the side", NONE, () -> x.known(1, 0));
        Check.due("c stayed", 5, () -> x.known(2, 0));
        LinkDirectory y = Check.loaded(text);
        y.setSide(0, 1);
        y.pass(7);
        y.setSide(2, 1);
        y.pass(1);
        Check.due("b is on the other side", NONE, () -> y.known(1, 0));
        Check.due("c came to the side", 5, () -> y.known(2, 0));
        LinkDirectory z = Check.loaded(text);
        z.setOn(1, false, false);
        z.pass(7);
        z.setOn(1, true, false);
        z.setOn(2, false, false);
        z.pass(1);
        Check.due("b came on", 5, () -> z.known(1, 0));
        Check.due("c went off", NONE, () -> z.known(2, 0));
        LinkDirectory v = Check.loaded(text);
        v.pass(7);
        v.setOn(0, false, false);
        v.pass(1);
        Check.due("the sender went off", 5, () -> v.known(1, 0));
        LinkDirectory w = Check.loaded(text);
        w.pass(7);
        w.setSide(0, 1);
        w.pass(1);
        Check.due("the sender went to the other side", NONE, () -> w.known(1, 0));
        Check.due("nobody hears himself", 0, () -> w.host(0, 3));
    }

    private static void whenChangesCome() {
        LinkDirectory x = Check.loaded("hosts a b;types t;service a t x 5 100;");
        x.pass(12);
        x.setPort(0, 6);
        Check.due("under way", 1, () -> x.count(6));
        x.pass(1);
        Check.due("sent at 12, not come in the tick 12", 5, () -> x.known(1, 0));
        Check.due("still under way", 1, () -> x.count(6));
        x.pass(1);
        Check.due("come in the tick 13", 6, () -> x.known(1, 0));
        Check.due("BORN 13", 13, () -> x.record(1, 0, 5));
        Check.due("none under way", 0, () -> x.count(6));
    }

    private static void lostMessages() {
        LinkDirectory x = Check.loaded("hosts a b c;types t;service a t x 5 100;lose 3;");
        x.pass(7);
        Check.due("the response is lost", 0, () -> x.count(6));
        Check.due("count(5)", 1, () -> x.count(5));
        Check.due("it has a number", 4, () -> x.count(4));
        x.pass(1);
        Check.due("it comes to none", NONE, () -> x.known(1, 0));
        Check.due("it comes to none", NONE, () -> x.known(2, 0));
        Check.due("the service goes on", 1, () -> x.service(0, 5));
        LinkDirectory y = new LinkDirectory();
        // The winner's probes 1 and 4 are lost, and the third one: service 0 announces, too.
        y.mark(1);
        y.pass(2);
        Check.due("nothing lost", 0, () -> y.service(0, 9));
        y.pass(2);
        Check.due("lost against the second probe", 1, () -> y.service(0, 9));
    }

    private static void defence() {
        for (int time : new int[] {7, 12}) {
            LinkDirectory x = Check.loaded("hosts a b;types t u;service a t x 5 100;");
            x.pass(time);
            Check.put(x, "x");
            x.add(1, 0, 999, 50);
            // The response of 6 comes at 7, before the new service acts, and renames it.
            Check.due("probes", time == 7 ? 0 : 1, () -> x.pass(1));
            Check.due("NUMBER", time == 7 ? 2 : 0, () -> x.service(1, 2));
        }
        LinkDirectory y = Check.loaded("hosts a b;types t u;service a t x 5 100;");
        y.pass(8);
        Check.put(y, "x");
        y.add(1, 0, 999, 50);
        Check.put(y, "x");
        y.add(1, 1, 999, 50);
        Check.put(y, "y");
        y.add(1, 0, 999, 50);
        Check.due("three probes", 3, () -> y.pass(1));
        Check.due("one defence while announcing", 1, () -> y.pass(1));
        Check.due("it is a response", 1, () -> y.message(0, 0));
        Check.due("for x", 5, () -> y.message(0, 5));
        Check.due("with its TTL", 100, () -> y.message(0, 6));
        y.pass(1);
        Check.due("renamed", 2, () -> y.service(1, 2));
        stateIs(y, 1, 0, 0, 11);
        Check.due("another type is another name", 0, () -> y.service(2, 2));
        Check.due("another BASE is another name", 0, () -> y.service(3, 2));
    }

    private static void losing() {
        LinkDirectory x = Check.loaded(TWO);
        x.pass(2);
        stateIs(x, 0, 0, 0, 5);
        stateIs(x, 1, 0, 1, 2);
        Check.due("lost", 1, () -> x.service(0, 9));
        x.pass(3);
        Check.due("no probe in between: it cannot lose again", 1, () -> x.service(0, 9));
        stateIs(x, 0, 0, 0, 5);
        // The same PORT: the greater host wins.
        LinkDirectory y = Check.loaded("hosts a b;types t;service b t x 5 100;service a t x 5 100;");
        y.pass(2);
        stateIs(y, 0, 0, 1, 2);
        stateIs(y, 1, 0, 0, 5);
        // The PORT counts before the host.
        LinkDirectory z = Check.loaded("hosts a b;types t;service a t x 6 100;service b t x 5 100;");
        z.pass(2);
        stateIs(z, 0, 0, 1, 2);
        stateIs(z, 1, 0, 0, 5);
        // The probe has the DATA that the service had as it was sent.
        LinkDirectory w = Check.loaded(TWO);
        w.pass(1);
        w.setPort(1, 1);
        w.pass(1);
        Check.due("lost against the old PORT", 1, () -> w.service(0, 9));
        Check.due("the new PORT loses, too", 1, () -> w.service(1, 9));
    }

    private static void renaming() {
        LinkDirectory x = new LinkDirectory();
        x.pass(7);
        Check.due("not yet", 0, () -> x.service(0, 2));
        Check.due("one probe sent", 1, () -> x.service(0, 6));
        x.pass(1);
        Check.due("2 behind 0", 2, () -> x.service(0, 2));
        stateIs(x, 0, 0, 0, 8);
        Check.due("how often", 1, () -> x.service(0, 8));
        Check.due("the response is in the cache, too", 1, () -> x.host(0, 3));
        // A service that has sent no probe is renamed by a response as well, whatever its DATA are.
        LinkDirectory y = Check.loaded("hosts a b;types t;service a t x 5 100;");
        y.pass(7);
        Check.put(y, "x");
        y.add(1, 0, 999, 50);
        y.pass(1);
        Check.due("renamed", 2, () -> y.service(1, 2));
        stateIs(y, 1, 0, 0, 8);
        LinkDirectory z = Check.loaded("hosts a b c;types t;service a t x 7 100;service b t x 6 100;service c t x 5 100;");
        z.pass(100);
        Check.due("a keeps its name", 0, () -> z.service(0, 2));
        Check.due("b", 2, () -> z.service(1, 2));
        Check.due("c: 3 behind 2", 3, () -> z.service(2, 2));
        Check.due("twice", 2, () -> z.service(2, 8));
        Check.due("in all", 3, () -> z.count(8));
    }

    private static void renamingPastOwnNames() {
        LinkDirectory x = Check.loaded("hosts a b;types t u;service a t x 5 100;service a u x 5 100;");
        x.pass(12);
        for (int service = 2; service < 5; service++) {
            Check.put(x, "x");
            x.add(1, 0, 9, 50);
            x.pass(4);
        }
        Check.due("2", 2, () -> x.service(2, 2));
        Check.due("3", 3, () -> x.service(3, 2));
        Check.due("4", 4, () -> x.service(4, 2));
        Check.due("renamed once", 1, () -> x.service(4, 8));
        Check.due("3 renamings in all", 3, () -> x.count(8));
        Check.due("the NUMBER in the log", 4, () -> x.log(0, 3));
        LinkDirectory z = Check.loaded("hosts a b;types t;service b t x 5 100;service a t x 6 100;");
        z.pass(20);
        Check.due("service 0 is x-2", 2, () -> z.service(0, 2));
        Check.put(z, "x");
        z.add(1, 0, 9, 50);
        z.pass(4);
        Check.due("service 0 of the host stands in the way", 3, () -> z.service(2, 2));
        x.withdraw(3);
        Check.put(x, "x");
        x.add(1, 1, 9, 50);
        Check.put(x, "x");
        x.add(1, 0, 9, 50);
        x.pass(4);
        Check.due("the name of a withdrawn service is free", 3, () -> x.service(6, 2));
        Check.due("other types are no hindrance", 2, () -> x.service(5, 2));
    }

    /** Two services that were established with one name on two sides, 12 ticks later on one side. */
    private static LinkDirectory joined() {
        LinkDirectory x = Check.loaded(TWO);
        x.setSide(0, 1);
        x.pass(12);
        x.setSide(0, 0);
        return x;
    }

    private static void conflicts() {
        LinkDirectory x = joined();
        Check.due("nothing happens by itself", 0, () -> x.pass(5));
        x.setPort(1, 6);
        x.pass(2);
        Check.due("conflict", 1, () -> x.service(0, 10));
        stateIs(x, 0, 0, 0, 19);
        Check.due("with its name", 0, () -> x.service(0, 2));
        Check.due("the record", 6, () -> x.known(0, 1));
        x.pass(3);
        Check.due("renamed behind a defence", 2, () -> x.service(0, 2));
        Check.due("conflicts in all", 1, () -> x.count(9));
        LinkDirectory y = joined();
        y.setPort(0, 5);
        y.pass(1);
        Check.due("the greater one responds", 1, () -> y.pass(1));
        Check.due("its response", 6, () -> y.message(0, 5));
        Check.due("its TTL", 100, () -> y.message(0, 6));
        Check.due("it has no conflict", 0, () -> y.service(1, 10));
        Check.due("established still", 2, () -> y.service(1, 5));
        Check.due("the record of the smaller one is kept", 5, () -> y.known(1, 0));
        y.pass(1);
        Check.due("conflict", 1, () -> y.service(0, 10));
        stateIs(y, 0, 0, 0, 15);
        // With the same PORT the greater host has the greater DATA.
        LinkDirectory z = joined();
        z.setPort(0, 6);
        z.pass(3);
        Check.due("the same PORT", 1, () -> z.service(0, 10));
        Check.due("the same PORT", 0, () -> z.service(1, 10));
        // An announcing service has conflicts, too.
        LinkDirectory w = Check.loaded(TWO);
        w.setSide(0, 1);
        w.pass(8);
        w.setSide(0, 0);
        w.setPort(1, 6);
        w.pass(2);
        Check.due("announcing", 1, () -> w.service(0, 10));
    }

    private static void rowOfConflicts() {
        LinkDirectory x = joined();
        x.setPort(1, 7);
        x.setPort(1, 8);
        x.pass(2);
        // The first response makes it probe, the second one renames it.
        Check.due("conflict", 1, () -> x.service(0, 10));
        Check.due("renamed", 2, () -> x.service(0, 2));
        stateIs(x, 0, 0, 0, 14);
        Check.due("the renaming is the latest event", 0, () -> x.log(0, 0));
        Check.due("behind the conflict", 2, () -> x.log(1, 0));
    }

    private static void recordIs(LinkDirectory x, int host, int place, int letter, int... want) {
        Check.due("letter of record " + place, letter, () -> x.recordByte(host, place, 0));
        for (int what = 0; what < want.length; what++) {
            int at = what;
            Check.due("record(" + host + ", " + place + ", " + what + ")", want[what], () -> x.record(host, place, at));
        }
    }

    private static void records() {
        LinkDirectory x = Check.loaded("hosts a b;types t;service a t x 5 100;service a t y 6 200;");
        x.pass(8);
        recordIs(x, 1, 0, 'x', 0, 0, 5, 0, 100, 7, 0, 107);
        recordIs(x, 1, 1, 'y', 0, 0, 6, 0, 200, 7, 0, 207);
        x.pass(4);
        recordIs(x, 1, 0, 'x', 0, 0, 5, 0, 100, 11, 0, 111);
        x.setPort(0, 7);
        x.pass(2);
        recordIs(x, 1, 0, 'x', 0, 0, 7, 0, 100, 13, 0, 113);
        recordIs(x, 1, 1, 'y', 0, 0, 6, 0, 200, 11, 0, 211);
        Check.due("two records", 2, () -> x.host(1, 3));
        // A record is replaced by one with the same name and other DATA.
        LinkDirectory y = Check.loaded("hosts a b c;types t;service a t x 5 100;service b t x 6 90;service a t z 7 100;");
        y.setSide(1, 1);
        y.pass(12);
        recordIs(y, 2, 0, 'x', 0, 0, 5, 0, 100, 11, 0, 111);
        y.setSide(1, 0);
        y.setPort(1, 6);
        y.pass(2);
        recordIs(y, 2, 0, 'x', 0, 0, 6, 1, 90, 13, 0, 103);
        recordIs(y, 2, 1, 'z', 0, 0, 7, 0, 100, 11, 0, 111);
    }

    /**
     * The two services of a and b give up their common name both at once, whenever b sends two responses for it,
     * a sends one, and b begins to probe anew before these come: so c hears of as many names as it likes to.
     */
    private static void recordsOfManyNames() {
        LinkDirectory x = Check.loaded("hosts a b c;types t;service a t x 5 1000;service b t x 6 1000;"
            + "service a t y 5 600;service a t z 5 600;");
        x.setSide(1, 1);
        x.pass(12);
        for (int name = 2; name <= 15; name++) {
            renameBoth(x);
        }
        Check.due("NUMBER", 15, () -> x.service(0, 2));
        Check.due("16 records", 16, () -> x.host(2, 3));
        recordIs(x, 2, 0, 'x', 0, 0, 5, 0, 1000);
        recordIs(x, 2, 1, 'y', 0, 0, 5, 0, 600, 11, 0, 611);
        recordIs(x, 2, 2, 'z', 0, 0, 5, 0, 600, 11, 0, 611);
        recordIs(x, 2, 15, 'x', 0, 14, 5, 0, 1000);
        x.write();
        Check.same("the output", "x-15.t p\nx-15.t p\ny.t e\nz.t e\n", Check.outputOf(x));
        x.pass(8);
        Check.due("16 records again", 16, () -> x.host(2, 3));
        // y and z expired first, and y stood before z; x is the first still.
        recordIs(x, 2, 0, 'x', 0, 0, 5, 0, 1000);
        recordIs(x, 2, 1, 'z', 0, 0, 5, 0, 600, 11, 0, 611);
        recordIs(x, 2, 15, 'x', 0, 15, 5, 0, 1000);
        x.pass(5);
        for (int name = 16; name <= 17; name++) {
            renameBoth(x);
        }
        x.pass(12);
        // Now z went, and then the oldest one of x, the first; but nothing expired.
        recordIs(x, 2, 0, 'x', 0, 2, 5, 0, 1000);
        recordIs(x, 2, 15, 'x', 0, 17, 5, 0, 1000);
        Check.due("16 records still", 16, () -> x.host(2, 3));
        Check.due("a full log", 20, () -> x.count(10));
        for (int event = 0; event < 20; event++) {
            int at = event;
            Check.due("no event of a record", 0, () -> x.log(at, 0) == 4 ? 1 : 0);
        }
    }

    private static void renameBoth(LinkDirectory x) {
        x.pass(12);
        x.setSide(1, 0);
        x.setPort(1, 6);
        x.setPort(1, 6);
        x.setPort(0, 5);
        x.setOn(1, false, false);
        x.setOn(1, true, false);
        x.pass(2);
        x.setSide(1, 1);
    }

    private static void goodbyes() {
        LinkDirectory x = Check.loaded("hosts a b;types t;service a t x 5 100;browse b t;");
        x.pass(12);
        x.withdraw(0);
        x.pass(1);
        recordIs(x, 1, 0, 'x', 0, 0, 5, 0, 100, 11, 0, 111);
        x.browse(1, 0, false);
        x.pass(1);
        recordIs(x, 1, 0, 'x', 0, 0, 5, 0, 1, 13, 0, 14);
        x.pass(1);
        Check.due("expired at 14", 0, () -> x.host(1, 3));
        Check.due("event 4", 4, () -> x.log(0, 0));
        Check.due("at 14", 14, () -> x.log(0, 1));
        // Only a record with the same DATA.
        LinkDirectory y = Check.loaded("hosts a b;types t;service a t x 5 100;");
        y.pass(12);
        y.mark(y.count(4));
        y.setPort(0, 6);
        y.withdraw(0);
        y.pass(3);
        recordIs(y, 1, 0, 'x', 0, 0, 5, 0, 100, 11, 0, 111);
        // A goodbye makes no record, and it renames nothing.
        LinkDirectory z = Check.loaded(TWO);
        z.setSide(0, 1);
        z.pass(12);
        z.setOn(0, false, false);
        z.setOn(0, true, false);
        z.setSide(0, 0);
        z.withdraw(1);
        z.pass(3);
        Check.due("no record", 0, () -> z.host(0, 3));
        Check.due("not renamed", 0, () -> z.service(0, 2));
        LinkDirectory v = joined();
        v.withdraw(1);
        v.pass(2);
        Check.due("no conflict", 0, () -> v.service(0, 10));
        Check.due("no answer", 0, () -> v.count(6));
        lateGoodbye(29);
        lateGoodbye(30);
        lateGoodbye(31);
    }

    /** A goodbye comes at the time: to a record that expires at 31, and so later than t + 1 only at 29. */
    private static void lateGoodbye(int time) {
        LinkDirectory x = Check.loaded("hosts a b;types t;service a t x 5 20;");
        x.pass(time - 1);
        x.withdraw(0);
        x.pass(1);
        recordIs(x, 1, 0, 'x', 0, 0, 5, 0, 20, 11, 0, 31);
        x.pass(1);
        if (time == 29) {
            recordIs(x, 1, 0, 'x', 0, 0, 5, 0, 1, 29, 0, 30);
        } else if (time == 30) {
            recordIs(x, 1, 0, 'x', 0, 0, 5, 0, 20, 11, 0, 31);
        } else {
            Check.due("it expired in this tick", 0, () -> x.host(1, 3));
        }
    }

    private static void expiry() {
        LinkDirectory x = Check.loaded("hosts a b c;types t;service a t x 5 20;service a t y 6 20;service a t z 7 30;");
        x.pass(31);
        Check.due("all are there before the tick 31", 3, () -> x.host(1, 3));
        x.pass(1);
        Check.due("one is left", 1, () -> x.host(1, 3));
        recordIs(x, 1, 0, 'z', 0, 0, 7, 0, 30, 11, 0, 41);
        int[][] events = {{4, 31, 2, 0}, {4, 31, 2, 0}, {4, 31, 1, 0}, {4, 31, 1, 0}, {3, 10, 2, 0}};
        for (int event = 0; event < events.length; event++) {
            for (int what = 0; what < 4; what++) {
                int at = event;
                int of = what;
                Check.due("log(" + event + ", " + what + ")", events[event][what], () -> x.log(at, of));
            }
        }
        // At host 0, and at a place behind one that lives on.
        LinkDirectory z = Check.loaded("hosts a b;types t;service b t x 5 30;service b t y 6 20;service b t z 6 25;");
        z.pass(32);
        Check.due("two are left", 2, () -> z.host(0, 3));
        recordIs(z, 0, 0, 'x', 0, 0, 5, 1, 30, 11, 0, 41);
        recordIs(z, 0, 1, 'z', 0, 0, 6, 1, 25, 11, 0, 36);
        Check.due("the host of the event", 0, () -> z.log(0, 2));
        z.pass(5);
        Check.due("one is left", 1, () -> z.host(0, 3));
        z.pass(5);
        Check.due("none is left", 0, () -> z.host(0, 3));
        // A record that is renewed as it would expire lives on, for messages come before.
        LinkDirectory y = Check.loaded("hosts a b;types t;service a t x 5 20;");
        y.pass(30);
        y.setPort(0, 5);
        y.pass(2);
        recordIs(y, 1, 0, 'x', 0, 0, 5, 0, 20, 31, 0, 51);
    }

    private static void asking() {
        LinkDirectory x = Check.loaded("hosts a b;types t u;service a t x 5 100;service a u y 5 100;service a t z 5 100;"
            + "browse b t;");
        x.pass(6);
        Check.due("nothing is answered while probing", 0, () -> x.count(6));
        x.pass(1);
        Check.due("three responses and a query", 4, () -> x.count(6));
        Check.due("both announcing services of the type answer", 2, () -> x.pass(1));
        Check.due("x", 0, () -> x.message(0, 3));
        Check.due("z", 0, () -> x.message(1, 3));
        LinkDirectory y = Check.loaded("hosts a b;types t;service a t x 5 100;");
        y.pass(12);
        y.setOn(1, false, false);
        y.setOn(1, true, false);
        y.browse(1, 0, true);
        y.withdraw(0);
        y.pass(1);
        Check.due("a withdrawn service does not answer", 0, () -> y.pass(1));
        // A browser asks at once when TIME is past, and TIME is counted from then on.
        LinkDirectory z = Check.loaded("hosts a b;types t;service a t x 5 100;");
        z.pass(20);
        z.browse(0, 0, true);
        z.pass(1);
        Check.due("TIME", 22, () -> z.browser(0, 0, 0));
        Check.due("INTERVAL", 4, () -> z.browser(0, 0, 1));
    }

    private static void knownAnswers() {
        // The record is born at 11: at 61 it has 50 of 100 ticks left, which is not more than half; at 60 it has 51.
        for (int time : new int[] {60, 61}) {
            LinkDirectory x = Check.loaded("hosts a b;types t u;service a t x 5 100;service a u y 5 300;");
            x.pass(time);
            x.browse(1, 0, true);
            x.pass(1);
            int known = time == 60 ? 1 : 0;
            Check.due("known answers at " + time, known, () -> x.message(0, 7));
            Check.due("answers", 1 - known, () -> x.pass(1));
            Check.due("suppressed", 5 * known + 3 * (1 - known), () -> x.log(0, 0));
        }
        // Half of 21 is 10: at 21 the record (born at 11) has 11 ticks left, at 22 it has 10.
        for (int time : new int[] {21, 22}) {
            LinkDirectory x = Check.loaded("hosts a b;types t;service a t x 5 21;");
            x.pass(time);
            x.browse(1, 0, true);
            x.pass(1);
            Check.due("known answers at " + time, 22 - time, () -> x.message(0, 7));
        }
        // The first answer is not known, the other two are; each of two queries has its own answers.
        LinkDirectory v = Check.loaded("hosts a b c;types t;service a t x 5 20;service a t y 5 100;service a t z 5 100;");
        v.pass(22);
        v.setOn(2, false, false);
        v.setOn(2, true, false);
        v.browse(2, 0, true);
        v.browse(1, 0, true);
        Check.due("two queries", 2, () -> v.pass(1));
        Check.due("b knows y and z", 2, () -> v.message(0, 7));
        Check.due("c knows nothing", 0, () -> v.message(1, 7));
        Check.due("x to b, and all three to c", 4, () -> v.pass(1));
        Check.due("suppressed", 1, () -> v.log(0, 0) == 5 && v.log(1, 0) == 5 && v.log(2, 0) != 5 ? 1 : 0);
        Check.due("z", 2, () -> v.log(0, 2));
        Check.due("y", 1, () -> v.log(1, 2));
        LinkDirectory w = Check.loaded("hosts a b c;types t u;service a t x 5 100;service a u y 5 100;service a t z 5 100;");
        w.pass(12);
        w.browse(1, 0, true);
        w.browse(1, 1, true);
        w.browse(2, 1, true);
        w.pass(1);
        Check.due("b knows x and z", 2, () -> w.message(0, 7));
        Check.due("b knows y", 1, () -> w.message(1, 7));
        Check.due("c knows y", 1, () -> w.message(2, 7));
        Check.due("no answer at all", 0, () -> w.messagesIn(1));
        Check.due("no answer at all", 0, () -> w.pass(1));
        // Other DATA, another name and another type are no known answers.
        LinkDirectory y = Check.loaded("hosts a b;types t;service a t x 5 100;");
        y.pass(12);
        y.browse(1, 0, true);
        y.mark(y.count(4));
        y.setPort(0, 6);
        y.pass(1);
        Check.due("the old PORT is known", 1, () -> y.message(0, 7));
        Check.due("so it answers", 1, () -> y.pass(1));
        LinkDirectory z = Check.loaded("hosts a b c;types t;service a t x 5 100;service b t x 6 100;");
        z.setSide(1, 1);
        z.pass(12);
        z.setSide(1, 0);
        z.browse(2, 0, true);
        z.pass(1);
        Check.due("that of a is known", 1, () -> z.message(0, 7));
        Check.due("so b answers, and a does not", 1, () -> z.pass(1));
        Check.due("b", 1, () -> z.message(0, 2));
        Check.due("a is suppressed", 5, () -> z.log(0, 0));
    }

    private static void browserIs(LinkDirectory x, int host, int type, int... want) {
        for (int what = 0; what < want.length; what++) {
            int at = what;
            Check.due("time " + x.count(3) + ": browser(" + what + ")", want[what], () -> x.browser(host, type, at));
        }
    }

    private static void refreshing() {
        LinkDirectory x = Check.loaded("hosts a b;types t u;service a t x 5 100;service a u y 5 30;browse b t;browse b u;");
        x.pass(30);
        x.setOn(0, false, false);
        x.pass(1);
        // The record of x was born at 11 and is refreshed at 91, 96, 101 and 106 (the browser asks at 30, 62 and 126);
        // that of y, too, which was renewed at 15 and asked for at 30: 24 of 30 are over at 39.
        x.pass(60);
        browserIs(x, 1, 0, 126, 64, 6, 0);
        recordIs(x, 1, 0, 'x', 0, 0, 5, 0, 100, 11, 0, 111);
        for (int age = 1; age <= 4; age++) {
            Check.due("one query", 1, () -> x.pass(1));
            browserIs(x, 1, 0, 126, 64, 6 + age, age);
            recordIs(x, 1, 0, 'x', 0, 0, 5, 0, 100, 11, age, 111);
            Check.due("none in between", 0, () -> x.pass(4));
        }
        Check.due("it expires", 0, () -> {
            x.pass(1);
            return x.host(1, 3);
        });
        // A query that is asked in its time makes the record older as well.
        LinkDirectory y = Check.loaded("hosts a b;types t;service a t x 5 20;");
        y.pass(25);
        y.browse(1, 0, true);
        y.setOn(0, false, false);
        y.pass(2);
        browserIs(y, 1, 0, 27, 4, 1, 0);
        y.pass(1);
        browserIs(y, 1, 0, 31, 8, 2, 0);
        recordIs(y, 1, 0, 'x', 0, 0, 5, 0, 20, 11, 1, 31);
        y.pass(1);
        browserIs(y, 1, 0, 31, 8, 3, 1);
        // A record that is renewed begins with AGE 0 again; with a great TTL the time is reckoned to the tick.
        LinkDirectory v = Check.loaded("hosts a b;types t;service a t x 5 999;browse b t;");
        for (int times = 0; times < 8; times++) {
            v.pass(100);
        }
        v.pass(10);
        recordIs(v, 1, 0, 'x', 0, 0, 5, 0, 999);
        int born = v.record(1, 0, 5);
        v.setOn(0, false, false);
        for (int age = 0; age < 4; age++) {
            // 80, 85, 90 and 95 parts of 999 ticks.
            int due = born + new int[] {799, 849, 899, 949}[age];
            passTo(v, due);
            recordIs(v, 1, 0, 'x', 0, 0, 5, 0, 999, born, age);
            Check.due("one query", 1, () -> v.pass(1));
            recordIs(v, 1, 0, 'x', 0, 0, 5, 0, 999, born, age + 1);
        }
        // Only records of the type of the browser.
        LinkDirectory z = Check.loaded("hosts a b;types t u;service a u x 5 20;browse b t;");
        z.pass(30);
        browserIs(z, 1, 0, 30, 32, 4, 0);
        recordIs(z, 1, 0, 'x', 1, 0, 5, 0, 20, 11, 0, 31);
    }

    private static void passTo(LinkDirectory x, int time) {
        while (x.count(3) < time) {
            x.pass(Math.min(100, time - x.count(3)));
        }
    }

    /** Hosts, services and browsers act by their numbers, and messages come by theirs. */
    private static void orderOfMessages() {
        LinkDirectory x = Check.loaded("hosts a b c;types t u;service c t x 5 100;service a u y 6 100;service b t z 7 100;"
            + "browse c u;browse a u;browse c t;browse a t;");
        x.pass(1);
        int[][] want = {{0, 2, 0}, {0, 0, 1}, {0, 1, 0}, {2, 0, 0}, {2, 0, 1}, {2, 2, 0}, {2, 2, 1}};
        for (int place = 0; place < want.length; place++) {
            int at = place;
            Check.due("kind", want[at][0], () -> x.message(at, 0));
            Check.due("number", at, () -> x.message(at, 1));
            Check.due("host", want[at][1], () -> x.message(at, 2));
            Check.due("type", want[at][2], () -> x.message(at, 3));
        }
        LinkDirectory y = Check.loaded("hosts a b c;types t;service b t x 5 100;service a t y 6 100;");
        y.pass(12);
        y.setOn(2, false, false);
        y.setOn(2, true, false);
        y.browse(2, 0, true);
        Check.put(y, "z");
        y.add(0, 0, 5, 50);
        y.pass(1);
        Check.due("a probe and a query", 2, () -> y.count(6));
        y.pass(1);
        // The query comes to a first, then to b: y answers before x.
        Check.due("a first", 0, () -> y.message(0, 2));
        Check.due("then b", 1, () -> y.message(1, 2));
        y.pass(1);
        recordIs(y, 2, 0, 'y', 0, 0, 6, 0);
    }

    private static void hostsThatAreOff() {
        LinkDirectory x = Check.loaded("hosts a b;types t;service a t x 5 100;service b t y 6 100;browse a t;");
        x.pass(3);
        x.setOn(0, false, true);
        int sent = x.host(0, 5);
        x.pass(50);
        Check.due("it sends nothing", sent, () -> x.host(0, 5));
        Check.due("it hears nothing", 0, () -> x.host(0, 3));
        stateIs(x, 0, 0, 2, NONE);
        x.setOn(0, true, true);
        stateIs(x, 0, 0, 0, 53);
        x.pass(11);
        stateIs(x, 0, 2, 3, NONE);
        Check.due("no browser any more", 0, () -> x.host(0, 4));
        Check.due("no record of y", NONE, () -> x.known(0, 1));
    }

    /** Far more messages under way than a link ever has by itself. */
    private static void manyMessages() {
        LinkDirectory x = Check.loaded("hosts a b c;types t;service a t x 5 100;service b t x 600 100;lose 110;");
        x.setSide(1, 1);
        x.pass(12);
        x.save(0);
        int sent = x.count(4);
        for (int port = 1; port <= 200; port++) {
            x.setPort(0, port);
        }
        Check.due("under way", 199, () -> x.count(6));
        Check.due("lost", 1, () -> x.count(5));
        for (int place : new int[] {0, 63, 64, 99, 100, 150, 198}) {
            // One that was lost is missing.
            int skipped = sent + place >= 110 ? 1 : 0;
            Check.due("number", sent + place + skipped, () -> x.message(place, 1));
            Check.due("PORT", place + skipped + 1, () -> x.message(place, 5));
        }
        Check.due("no more", Check.THROWS_INDEX, () -> x.message(199, 0));
        x.undo();
        Check.due("under way behind undo()", 198, () -> x.count(6));
        Check.due("the last one", 199, () -> x.message(197, 5));
        x.save(1);
        x.setSide(1, 0);
        x.pass(1);
        Check.due("still 198: they were sent at 12", 198, () -> x.count(6));
        Check.due("b responds to each of them", 198, () -> x.messagesIn(1));
        Check.due("b responds to each of them", 198, () -> x.pass(1));
        Check.due("the responses", 600, () -> x.message(197, 5));
        Check.due("c has the last one", 199, () -> x.known(2, 0));
        x.pass(1);
        Check.due("one conflict", 1, () -> x.service(0, 10));
        Check.due("renamed by the next response", 2, () -> x.service(0, 2));
        Check.due("but not again", 1, () -> x.service(0, 8));
        x.restore(1);
        Check.due("under way behind restore()", 198, () -> x.count(6));
        Check.due("the last one", 199, () -> x.message(197, 5));
        x.restore(0);
        Check.due("none", 0, () -> x.count(6));
        LinkDirectory y = Check.loaded("hosts a b;types t;service b t x 5 100;");
        y.pass(12);
        for (int port = 1; port <= 150; port++) {
            y.setPort(0, port);
        }
        for (int place = 0; place < 150; place++) {
            int at = place;
            Check.due("the host of message " + place, 1, () -> y.message(at, 2));
        }
    }

    /** Five hosts that know the eleven services of the sixth ask for all of them at once. */
    private static void manyAnswers() {
        StringBuilder text = new StringBuilder("hosts a b c d e f;types t u;service a u z 5 100;");
        for (char base = 'a'; base <= 'k'; base++) {
            text.append("service a t ").append(base).append(" 5 100;");
        }
        LinkDirectory x = Check.loaded(text.toString());
        x.pass(12);
        for (int host = 1; host < 6; host++) {
            x.browse(host, 0, true);
            x.browse(host, 1, true);
        }
        x.pass(1);
        for (int host = 1; host < 6; host++) {
            int place = 2 * host - 2;
            Check.due("known answers of t", 11, () -> x.message(place, 7));
            Check.due("known answers of u", 1, () -> x.message(place + 1, 7));
        }
        Check.due("no answer", 0, () -> x.messagesIn(1));
        Check.due("no answer", 0, () -> x.pass(1));
        Check.due("all were suppressed", 5, () -> x.log(19, 0));
        x.undo();
        Check.due("no answer", 0, () -> x.pass(1));
        Check.due("a changed PORT is answered by each query", 5, () -> {
            x.undo();
            x.mark(x.count(4));
            x.setPort(11, 6);
            return x.messagesIn(1);
        });
    }
}
