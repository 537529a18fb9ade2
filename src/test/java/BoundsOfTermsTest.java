/**
 * The boundary cases that the section "Terms" names, but for the text and the changes: numbers, messages, records,
 * what hosts do with messages, browsers, ticks, hosts that go, the log, and what is foretold beyond the end.
 */
public final class BoundsOfTermsTest {
    private static final int NONE = LinkDirectory.NONE;
    private static final String ONE = "hosts a b;types t;service a t x 5 100;";

    private BoundsOfTermsTest() {
    }

    public static void main(String[] args) {
        foretoldBeyondTheEnd();
        orderOfDataInProbes();
        orderOfDataInResponses();
        beginToProbe();
        renamedTo();
        renamedPastOwnNames();
        comesAtTheNextTime();
        comesToWhomIsThere();
        notToTheSender();
        lostByNumber();
        lostKinds();
        lostNumbers();
        lostOfMany();
        sixteenRecords();
        replacedRecords();
        expiry();
        lateGoodbyes();
        goodbyesOfOthers();
        agesOfGoodbyes();
        probesMeetProbing();
        probesMeetOthers();
        lostUntilAlarm();
        responsesMeetProbing();
        responsesMeetOthers();
        responseMeetsMany();
        goodbyesMeetServices();
        queriesMeetServices();
        halfOfTheTtl();
        knownAnswers();
        refreshTimes();
        ageOfRecords();
        intervals();
        threeProbes();
        alarms();
        goingOff();
        comingOn();
        twentyEvents();
        Check.end();
    }

    private static Stage one(int ticks) {
        return Stage.of(ONE, ticks);
    }

    private static LinkDirectory one() {
        return Check.loaded(ONE);
    }

    private static int addTo(LinkDirectory x, int host, String base, int port) {
        Check.put(x, base);
        return x.add(host, 0, port, 100);
    }

    private static void is(String what, long want, long got) {
        Check.same(what, want, got);
    }

    private static void serviceIs(String what, LinkDirectory x, int service, int state, int probes, int alarm) {
        is(what + ": state", state, x.service(service, 5));
        is(what + ": PROBES", probes, x.service(service, 6));
        is(what + ": ALARM", alarm, x.service(service, 7));
    }

    private static void recordIs(String what, LinkDirectory x, int host, int place, int... want) {
        for (int of = 0; of < want.length; of++) {
            int at = of;
            Check.due(what + ": record(" + host + ", " + place + ", " + of + ")", want[of], () ->
                x.record(host, place, at));
        }
    }

    // ---- general

    /** "What is foretold goes on beyond the time 5000." */
    private static void foretoldBeyondTheEnd() {
        for (int time : new int[] {4899, 4900, 4995, 4999, 5000}) {
            Stage end = new Stage("at " + time, () -> Scenes.atTime(time));
            Stage added = end.behind("a new service", x -> addTo(x, 1, "w", 7));
            added.shown("establishedIn", 11, x -> x.establishedIn(1));
            added.shown("knownIn", 8, x -> x.knownIn(0, 1));
            added.shown("messagesIn(0)", 0, x -> x.messagesIn(0));
            added.shown("messagesIn(1)", 1, x -> x.messagesIn(1));
            added.shown("messagesIn(10)", 4, x -> x.messagesIn(10));
            added.shown("messagesIn(11)", 5, x -> x.messagesIn(11));
            added.shown("messagesIn(100)", 5, x -> x.messagesIn(100));
            end.shown("numberIf", 2, x -> x.numberIf(1, 0, 0, 999));
            Stage same = end.behind("one with the same name", x -> addTo(x, 1, "x", 7));
            same.shown("numberIn(2)", 0, x -> x.numberIn(1, 2));
            same.shown("numberIn(3)", 2, x -> x.numberIn(1, 3));
            same.shown("numberIn(100)", 2, x -> x.numberIn(1, 100));
            // The record is born two ticks behind the change, and expires 100 ticks behind that.
            Stage stale = new Stage("stale at " + time, () -> {
                LinkDirectory x = Stage.passed(one(), time - 2);
                x.setPort(0, 6);
                x.pass(2);
                x.setOn(0, false, false);
                return x;
            });
            stale.shown("freshIn", 100, LinkDirectory::freshIn);
        }
    }

    // ---- hosts and services

    /** "With the same PORT the one with the greater number of the host is greater": the smaller DATA lose. */
    private static void orderOfDataInProbes() {
        int[][] ports = {{1, 1}, {1, 2}, {2, 1}, {5, 5}, {998, 999}, {999, 998}, {999, 999}, {9, 10}, {10, 9}, {1, 999}};
        for (int[] pair : ports) {
            int loser = pair[1] >= pair[0] ? 0 : 1;
            LinkDirectory x = Check.loaded("hosts a b;types t;service a t x " + pair[0] + " 100;service b t x "
                + pair[1] + " 100;");
            x.pass(2);
            is("ports " + pair[0] + ", " + pair[1] + ": service 0 lost", 1 - loser, x.service(0, 9));
            is("ports " + pair[0] + ", " + pair[1] + ": service 1 lost", loser, x.service(1, 9));
            // The number of the host counts, not that of the service.
            LinkDirectory y = Check.loaded("hosts a b;types t;service b t x " + pair[1] + " 100;service a t x "
                + pair[0] + " 100;");
            y.pass(2);
            is("ports " + pair[0] + ", " + pair[1] + ": the service of a lost", 1 - loser, y.service(1, 9));
            is("ports " + pair[0] + ", " + pair[1] + ": the service of b lost", loser, y.service(0, 9));
        }
    }

    private static void orderOfDataInResponses() {
        // b has the PORT 6; a sends a response with these.
        int[][] ofA = {{1, 0}, {5, 0}, {6, 0}, {7, 1}, {999, 1}};
        for (int[] port : ofA) {
            LinkDirectory x = Scenes.joined(3, 6);
            x.setPort(0, port[0]);
            x.pass(2);
            is("a's PORT " + port[0] + ": conflict of b", port[1], x.service(1, 10));
            is("a's PORT " + port[0] + ": response of b", 1 - port[1], x.count(6));
        }
        // a has the PORT 6; b sends a response with these.
        int[][] ofB = {{1, 0}, {5, 0}, {6, 1}, {7, 1}, {999, 1}};
        for (int[] port : ofB) {
            LinkDirectory x = Scenes.joined(6, 3);
            x.setPort(1, port[0]);
            x.pass(2);
            is("b's PORT " + port[0] + ": conflict of a", port[1], x.service(0, 10));
            is("b's PORT " + port[0] + ": response of a", 1 - port[1], x.count(6));
        }
    }

    /** "A new service begins to probe with the present time as ALARM", and acts at once then. */
    private static void beginToProbe() {
        for (int time : new int[] {0, 1, 7, 4999}) {
            LinkDirectory x = Scenes.atTime(time);
            int added = addTo(x, 1, "w", 5);
            serviceIs("new at " + time, x, added, 0, 0, time);
            is("NUMBER", 0, x.service(added, 2));
            x.pass(1);
            serviceIs("a tick later", x, added, 0, 1, time + 2);
        }
    }

    /** "Its NUMBER becomes 2 if it is 0, otherwise greater by 1." */
    private static void renamedTo() {
        LinkDirectory x = Check.loaded("hosts a b c d;types t;service a t x 9 100;service b t x 8 100;"
            + "service c t x 7 100;service d t x 6 100;");
        x.pass(100);
        for (int service = 0; service < 4; service++) {
            is("NUMBER of service " + service, service == 0 ? 0 : service + 1, x.service(service, 2));
            is("renamings of service " + service, service, x.service(service, 8));
        }
        is("renamings", 6, x.count(8));
    }

    private static final String OWN = "hosts a b c;types t u;service a t x 5 100;service a u x 5 100;service a t y 5 100;";

    /** b gets services that are renamed: x-2, x-3 and so on, of which some may be withdrawn. */
    private static LinkDirectory withOwn(int host, int type, String base, int number, int... withdrawn) {
        LinkDirectory x = Check.loaded(OWN);
        x.pass(12);
        for (int times = 0; times < number; times++) {
            Check.put(x, base);
            x.add(host, type, 4, 100);
            x.pass(3);
        }
        for (int service : withdrawn) {
            x.withdraw(2 + service - 1);
        }
        return x;
    }

    private static void renamedTo(String what, int want, LinkDirectory x) {
        int added = addTo(x, 1, "x", 4);
        int renamings = x.count(8);
        x.pass(3);
        is(what + ": NUMBER", want, x.service(added, 2));
        is(what + ": one renaming", 1, x.service(added, 8));
        is(what + ": one renaming", renamings + 1, x.count(8));
    }

    /** "This is repeated as long as another service of its host that is not withdrawn has the same name." */
    private static void renamedPastOwnNames() {
        renamedTo("no other name", 2, withOwn(1, 0, "x", 0));
        renamedTo("x-2", 3, withOwn(1, 0, "x", 1));
        renamedTo("x-2 is announcing", 3, Stage.passed(withOwn(1, 0, "x", 1), 7));
        renamedTo("x-2 is established", 3, Stage.passed(withOwn(1, 0, "x", 1), 20));
        renamedTo("x-2 and x-3", 4, withOwn(1, 0, "x", 2));
        renamedTo("x-2 to x-9", 10, withOwn(1, 0, "x", 8));
        // Services 3 and 4 of the link are x-2 and x-3.
        renamedTo("x-2 is withdrawn", 2, withOwn(1, 0, "x", 1, 2));
        renamedTo("x-2 of two is withdrawn", 2, withOwn(1, 0, "x", 2, 2));
        renamedTo("x-3 of two is withdrawn", 3, withOwn(1, 0, "x", 2, 3));
        renamedTo("x-2 and x-4 of three", 3, withOwn(1, 0, "x", 3, 3));
        renamedTo("x-2 of another host", 2, withOwn(2, 0, "x", 1));
        renamedTo("x-2 of another type", 2, withOwn(1, 1, "x", 1));
        renamedTo("y-2", 2, withOwn(1, 0, "y", 1));
        // As many own names as there can be: x-2 to x-12, and a 13th service that is only foretold.
        Stage all = Stage.of("hosts a b;types t;service a t x 5 100;", 12).behind("x-2 to x-12", x -> {
            for (int number = 2; number <= 12; number++) {
                addTo(x, 1, "x", 4);
                x.pass(3);
            }
            return 0;
        });
        all.due("the last one", 12, x -> x.service(11, 2));
        all.due("one more", 13, x -> x.numberIf(1, 0, 0, 4));
    }

    // ---- messages

    /** "A message that is sent at the time t comes at the time t + 1." */
    private static void comesAtTheNextTime() {
        // The first response is sent in the tick 6, and comes in the tick 7.
        one(6).due("before it is sent", 0, x -> x.count(6));
        one(7).due("sent", 1, x -> x.count(6));
        one(7).due("not come in the same tick", NONE, x -> x.known(1, 0));
        one(8).due("come", 5, x -> x.known(1, 0));
        one(8).due("come", 0, x -> x.count(6));
        one(8).due("BORN", 7, x -> x.record(1, 0, 5));
        // What a change sends at 12 comes in the tick 13, not in the tick 12.
        Stage changed = one(12).behind("another PORT", x -> x.setPort(0, 6));
        changed.due("under way", 1, x -> x.count(6));
        changed.due("in the tick 12", 5, x -> x.pass(1) + x.known(1, 0));
        changed.due("still under way", 1, x -> x.pass(1) + x.count(6));
        changed.due("in the tick 13", 6, x -> x.pass(2) + x.known(1, 0));
        changed.due("BORN", 13, x -> x.pass(2) + x.record(1, 0, 5));
        changed.due("come", 0, x -> x.pass(2) + x.count(6));
    }

    /** It comes "to each host that is on then, on the same SIDE as the sending host then". */
    private static void comesToWhomIsThere() {
        Stage before = one(6);
        Stage sent = one(7);
        hears(sent, "nothing changed", 5, x -> 0);
        hears(sent, "b is off as it comes", NONE, x -> x.setOn(1, false, false));
        hears(sent, "b is on again as it comes", 5, x -> x.setOn(1, false, false) + x.setOn(1, true, false));
        hears(sent, "b is on the other side as it comes", NONE, x -> x.setSide(1, 1));
        hears(sent, "a is on the other side as it comes", NONE, x -> x.setSide(0, 1));
        hears(sent, "both are on the other side as it comes", 5, x -> x.setSide(0, 1) + x.setSide(1, 1));
        hears(sent, "a is off as it comes", 5, x -> x.setOn(0, false, false));
        for (int side = 0; side <= 1; side++) {
            int of = side;
            Stage apart = before.behind("apart as it is sent", x -> x.setSide(of, 1) + x.pass(1));
            hears(apart, "still apart", NONE, x -> 0);
            hears(apart, "together as it comes", 5, x -> x.setSide(of, 0));
            hears(apart, "the other one comes, too", 5, x -> x.setSide(1 - of, 1));
        }
        Stage off = before.behind("b is off as it is sent", x -> x.setOn(1, false, false) + x.pass(1));
        hears(off, "off as it comes", NONE, x -> 0);
        hears(off, "on as it comes", 5, x -> x.setOn(1, true, false));
    }

    private static void hears(Stage stage, String what, long want, Stage.CallOn deed) {
        Stage behind = stage.behind(what, deed);
        behind.due("a tick later", want, x -> {
            x.pass(1);
            return x.known(1, 0);
        });
    }

    /** It does not come to "the sending host itself". */
    private static void notToTheSender() {
        Stage own = Stage.of("hosts a b;types t;service a t x 5 100;browse a t;", 60);
        own.due("no record of its own", 0, x -> x.host(0, 3));
        own.due("five messages and five queries, but no answer", 10, x -> x.count(4));
        own.due("b has the record", 5, x -> x.known(1, 0));
        Stage alone = Stage.of("hosts a;types t;service a t x 5 100;browse a t;", 60);
        alone.due("no record of its own", 0, x -> x.host(0, 3));
        alone.due("no answer", 10, x -> x.count(4));
    }

    /** "A message whose number is marked is lost as it is sent, and comes to none." */
    private static void lostByNumber() {
        // Probes 0, 1 and 2 at the times 0, 2 and 4; responses 3 and 4 at 6 and 10.
        int[] sentAt = {0, 2, 4, 6, 10};
        for (int lost = 0; lost <= 5; lost++) {
            int message = lost;
            String text = "hosts a b c;types t;service a t x 5 100;lose " + lost + ";";
            for (int time = 0; time <= 12; time++) {
                boolean isSent = lost < 5 && time > sentAt[lost];
                Stage.of(text, time).due("lost", isSent ? 1 : 0, x -> x.count(5));
            }
            for (int number = 0; number < 5; number++) {
                int under = number == lost ? 0 : 1;
                Stage.of(text, sentAt[number] + 1).due("under way: " + number, under, x -> x.count(6));
                Stage.of(text, sentAt[number] + 1).due("sent: " + number, number + 1, x -> x.count(4));
            }
            for (int host = 1; host <= 2; host++) {
                int at = host;
                Stage.of(text, 8).due("the first response at " + host, message == 3 ? NONE : 5, x -> x.known(at, 0));
                Stage.of(text, 12).due("the second response at " + host, message == 4 ? 7 : 11, x -> x.record(at, 0, 5));
            }
            Stage.of(text, 11).due("established all the same", 2, x -> x.service(0, 5));
        }
    }

    /** Queries and goodbyes can be lost as well. */
    private static void lostKinds() {
        Stage query = one(12).behind("b asks anew", x -> {
            x.setOn(1, false, false);
            x.setOn(1, true, false);
            return x.browse(1, 0, true);
        });
        query.due("the answer", 1, x -> x.pass(1) + x.pass(1) - 1);
        query.behind("lost", x -> x.mark(x.count(4))).due("no answer", 0, x -> x.pass(1) + x.pass(1) - 1);
        Stage goodbye = one(12);
        goodbye.due("a goodbye", 0, x -> {
            x.withdraw(0);
            x.pass(3);
            return x.host(1, 3);
        });
        goodbye.due("a goodbye that is lost", 1, x -> {
            x.mark(x.count(4));
            x.withdraw(0);
            x.pass(3);
            return x.host(1, 3);
        });
    }

    /** The numbers 0 and 999, the least and the greatest one that can be marked. */
    private static void lostNumbers() {
        LinkDirectory y = new LinkDirectory();
        y.mark(0);
        y.pass(1);
        is("message 0 is lost", 1, y.count(5));
        is("the first under way", 1, y.message(0, 1));
        LinkDirectory x = Scenes.storm(4);
        is("messages", 585, x.count(4));
        x.mark(999);
        x.mark(585);
        Scenes.stormOn(x, 14);
        is("messages", 2290, x.count(4));
        is("lost", 27, x.count(5));
        is("the first under way", 586, x.message(0, 1));
        is("before the lost one", 998, x.message(412, 1));
        is("behind the lost one", 1000, x.message(413, 1));
        is("the last under way", 2289, x.message(1702, 1));
        is("under way", 1703, x.count(6));
        is("the latest event", 6, x.log(0, 0));
        is("its message", 999, x.log(0, 2));
        is("the event before", 585, x.log(1, 2));
        Scenes.stormOn(x, 15);
        is("no more are lost", 27, x.count(5));
    }

    /** Whichever of many messages is marked, be it sent by a change or as an answer, it is lost, and no other one. */
    private static void lostOfMany() {
        for (int lost = 29; lost <= 55; lost++) {
            int message = lost;
            Stage storm = new Stage("message " + lost + " is marked", () -> {
                LinkDirectory x = Scenes.storm(1);
                Check.answerOf((Check.Call) () -> x.mark(message));
                Scenes.stormOn(x, 11);
                return x;
            });
            // 30 messages were sent before; the ports are changed by 30 to 34, and the answers are 35 to 54.
            boolean isLost = lost >= 30 && lost <= 54;
            storm.due("sent", 55, x -> x.count(4));
            storm.due("lost", isLost ? 26 : 25, x -> x.count(5));
            storm.due("under way", isLost ? 24 : 25, x -> x.count(6));
            for (int place = 0; place < 24; place++) {
                int at = place;
                storm.due("the number of " + place, 30 + place + (isLost && 30 + place >= lost ? 1 : 0), x -> x.message(at, 1));
            }
            storm.due("of all hosts", 55, x -> x.host(0, 5) + x.host(1, 5) + x.host(2, 5) + x.host(3, 5) + x.host(4, 5));
        }
    }

    // ---- records

    /** The names of the records of a host, in their order. */
    private static String names(LinkDirectory x, int host) {
        StringBuilder names = new StringBuilder();
        for (int place = 0; place < x.host(host, 3); place++) {
            names.append(place == 0 ? "" : " ").append((char) x.recordByte(host, place, 0));
            names.append(x.record(host, place, 1) == 0 ? "" : "-" + x.record(host, place, 1));
        }
        return names.toString();
    }

    private static void names(Stage stage, String what, String want, int host) {
        Check.same(what, want, names(stage.make(), host));
    }

    /** One more service of a, and so many ticks. */
    private static Stage withOne(Stage stage, String base, int ttl, int ticks) {
        return stage.behind(base, x -> Scenes.addTo(x, base, ttl) + x.pass(ticks));
    }

    /** "If there are 16 already, the one that expires first (of several the first one) goes." */
    private static void sixteenRecords() {
        Stage fifteen = new Stage("15 records", Scenes::fifteenRecords);
        String all = "x w y z x-2 w-2 x-3 w-3 x-4 w-4 v x-5 w-5 x-6 w-6";
        names(fifteen, "15 records", all, 2);
        fifteen.due("y expires", 611, x -> x.record(2, 2, 7));
        fifteen.due("z expires", 611, x -> x.record(2, 3, 7));
        fifteen.due("the TTL of v", 560, x -> x.record(2, 10, 4));
        fifteen.due("v expires later", 625, x -> x.record(2, 10, 7));
        fifteen.due("x and w expire at the same time", 0, x -> x.record(2, 0, 7) - x.record(2, 1, 7));
        Stage sixteen = withOne(fifteen, "p", 1000, 8);
        names(sixteen, "a 16th record: none goes", all + " p", 2);
        Stage more = withOne(sixteen, "q", 1000, 8);
        names(more, "a 17th name: the first one that expires first goes", all.replace(" y", "") + " p q", 2);
        more = more.behind("8 ticks", x -> x.pass(8));
        names(more, "a response with a name that is there: none goes", all.replace(" y", "") + " p q", 2);
        more = withOne(more, "r", 1000, 12);
        names(more, "then the other one goes", all.replace(" y z", "") + " p q r", 2);
        more = withOne(more, "s", 1000, 12);
        String twelve = all.replace(" y z", "").replace(" v", "");
        names(more, "then v goes", twelve + " p q r s", 2);
        more = withOne(more, "o", 1000, 12);
        names(more, "then the first of all goes", twelve.replace("x w ", "w ") + " p q r s o", 2);
        // Any other one goes if it expires first: the first ones, and one in the middle.
        Stage first = withOne(new Stage("x is short", () -> Scenes.fifteenRecords(300, 1000)), "p", 1000, 8);
        first = withOne(first, "q", 1000, 8);
        names(first, "x goes", all.replaceFirst("x ", "") + " p q", 2);
        first = withOne(first, "r", 1000, 8);
        names(first, "x-2 goes", all.replaceFirst("x ", "").replace(" x-2", "") + " p q r", 2);
        Stage second = withOne(new Stage("w is short", () -> Scenes.fifteenRecords(1000, 300)), "p", 1000, 8);
        second = withOne(second, "q", 1000, 8);
        names(second, "w goes", all.replaceFirst(" w", "") + " p q", 2);
        second = withOne(second, "r", 1000, 8);
        names(second, "w-2 goes", all.replaceFirst(" w", "").replace(" w-2", "") + " p q r", 2);
        second = withOne(second, "s", 1000, 8);
        names(second, "w-3 goes", all.replaceFirst(" w", "").replace(" w-2", "").replace(" w-3", "") + " p q r s", 2);
        // The last one goes if it expires first.
        Stage last = withOne(fifteen, "p", 20, 8);
        names(last, "a 16th record", all + " p", 2);
        names(withOne(last, "q", 20, 8), "the last one goes", all + " q", 2);
    }

    /** A record stands "in place of one with the same name, or otherwise behind its other records". */
    private static void replacedRecords() {
        LinkDirectory x = Check.loaded("hosts a b;types t;service a t x 5 30;service a t y 6 200;service a t z 7 300;");
        x.pass(12);
        Check.same("in their order", "x y z", names(x, 1));
        x.setPort(0, 9);
        x.pass(2);
        Check.same("in place of the first one", "x y z", names(x, 1));
        recordIs("renewed", x, 1, 0, 0, 0, 9, 0, 30, 13, 0, 43);
        x.pass(28);
        // The record was born at 17 at last (the response as it is established again).
        recordIs("before it expires", x, 1, 0, 0, 0, 9, 0, 30, 17, 0, 47);
        x.setPort(2, 9);
        x.pass(2);
        Check.same("in place of the last one", "x y z", names(x, 1));
        x.pass(4);
        Check.same("x expired", "y z", names(x, 1));
        x.setPort(0, 10);
        x.pass(2);
        Check.same("behind the others", "y z x", names(x, 1));
    }

    /** "A record expires at the time BORN + TTL": it is removed in the tick then, and not before. */
    private static void expiry() {
        for (int ttl : new int[] {20, 21, 100, 999, 1000}) {
            String text = "hosts a b;types t;service a t x 5 " + ttl + ";";
            recordIs("TTL " + ttl, Stage.passed(Check.loaded(text), 12), 1, 0, 0, 0, 5, 0, ttl, 11, 0, 11 + ttl);
            Stage.of(text, 11 + ttl).due("the tick before", 1, x -> x.host(1, 3));
            Stage.of(text, 11 + ttl).due("the tick before", 3, x -> x.log(0, 0));
            Stage.of(text, 12 + ttl).due("the tick of its end", 0, x -> x.host(1, 3));
            Stage.of(text, 12 + ttl).due("the event", 4, x -> x.log(0, 0));
            Stage.of(text, 12 + ttl).due("its time", 11 + ttl, x -> x.log(0, 1));
        }
        // The same at the other host, which is the first one; the records behind one that is removed move up.
        String[] of = {"x y z", "x z", "z", ""};
        int[] times = {31, 32, 37, 42};
        for (int end = 0; end < of.length; end++) {
            LinkDirectory x = Check.loaded("hosts a b;types t;service b t x 5 25;service b t y 5 20;service b t z 5 30;");
            Stage.passed(x, times[end]);
            Check.same("records of a at " + times[end], of[end], names(x, 0));
            Stage.passed(x, end == 0 ? 1 : 0);
            is("events of records", Math.max(1, end), eventsOf(x, 4));
        }
        // A response that comes in the tick of its end renews it, one that comes a tick later is too late.
        for (int late = 0; late <= 1; late++) {
            LinkDirectory x = Stage.passed(Check.loaded("hosts a b;types t;service a t x 5 20;"), 30 + late);
            x.setPort(0, 5);
            x.pass(2);
            recordIs("renewed", x, 1, 0, 0, 0, 5, 0, 20, 31 + late, 0, 51 + late);
            is("an event of its end", late, x.log(0, 0) == 4 ? 1 : 0);
        }
    }

    private static int eventsOf(LinkDirectory x, int kind) {
        int found = 0;
        for (int event = 0; event < x.count(10); event++) {
            found += x.log(event, 0) == kind ? 1 : 0;
        }
        return found;
    }

    /** A goodbye counts for a record "that expires later than t + 1": this one expires at 31. */
    private static void lateGoodbyes() {
        for (int time = 13; time <= 31; time++) {
            LinkDirectory x = Stage.passed(Check.loaded("hosts a b;types t;service a t x 5 20;"), time - 1);
            x.withdraw(0);
            x.pass(1);
            recordIs("before the goodbye", x, 1, 0, 0, 0, 5, 0, 20, 11, 0, 31);
            x.pass(1);
            if (time <= 29) {
                recordIs("a goodbye at " + time, x, 1, 0, 0, 0, 5, 0, 1, time, 0, time + 1);
            } else if (time == 30) {
                recordIs("a goodbye at 30", x, 1, 0, 0, 0, 5, 0, 20, 11, 0, 31);
            } else {
                is("expired with the goodbye at 31", 0, x.host(1, 3));
            }
            x.pass(1);
            is("gone", 0, x.host(1, 3));
            is("the time of its end", Math.min(31, time + 1), x.log(0, 1));
        }
    }

    /** A goodbye counts for "a record with the same name and DATA". */
    private static void goodbyesOfOthers() {
        for (int port = 4; port <= 6; port++) {
            LinkDirectory x = Stage.passed(one(), 12);
            x.mark(5);
            x.setPort(0, port);
            x.withdraw(0);
            x.pass(2);
            recordIs("a goodbye with the PORT " + port, x, 1, 0, 0, 0, 5, 0, port == 5 ? 1 : 100);
        }
        // c has the record of b; a says goodbye for the same name and PORT.
        LinkDirectory y = Check.loaded("hosts a b c;types t;service a t x 6 100;service b t x 6 100;");
        y.setSide(0, 1);
        y.pass(12);
        y.setSide(0, 0);
        y.withdraw(0);
        y.pass(2);
        recordIs("a goodbye of another host", y, 2, 0, 0, 0, 6, 1, 100, 11);
        y.withdraw(1);
        y.pass(2);
        recordIs("a goodbye of its host", y, 2, 0, 0, 0, 6, 1, 1, 15);
        // There is no record at all.
        LinkDirectory z = Stage.passed(one(), 12);
        z.setOn(1, false, false);
        z.setOn(1, true, false);
        z.withdraw(0);
        z.pass(2);
        is("a goodbye makes no record", 0, z.host(1, 3));
    }

    /** By a goodbye "this record gets the TTL 1 and BORN t": it keeps its AGE, with which it is refreshed or not. */
    private static void agesOfGoodbyes() {
        // The browser asks at 91, 93, 97 and 105; the record is due at 91, 96, 101 and 106.
        int[][] goodbyes = {{94, 1, 1}, {98, 2, 1}, {102, 3, 1}, {107, 4, 0}};
        for (int[] goodbye : goodbyes) {
            Stage apart = one(91).behind("browsed on another side until " + goodbye[0], x -> {
                x.setSide(0, 1);
                x.browse(1, 0, true);
                x.pass(goodbye[0] - 91);
                return x.setSide(0, 0);
            }).behind("withdrawn", x -> x.withdraw(0));
            recordIs("before the goodbye", apart.make(), 1, 0, 0, 0, 5, 0, 100, 11, goodbye[1], 111);
            Stage come = apart.behind("two ticks", x -> x.pass(2));
            int born = goodbye[0] + 1;
            recordIs("refreshed", come.make(), 1, 0, 0, 0, 5, 0, 1, born, goodbye[1] + goodbye[2], born + 1);
            apart.due("queries", goodbye[2], x -> x.pass(1) * 0 + x.pass(1));
            Stage ended = apart.behind("browsed no more", x -> x.browse(1, 0, false)).behind("two ticks", x -> x.pass(2));
            recordIs("not refreshed", ended.make(), 1, 0, 0, 0, 5, 0, 1, born, goodbye[1], born + 1);
        }
    }

    // ---- what hosts do with messages

    /** "If it is probing, has sent a probe, and its DATA are smaller than those of the probe, it loses." */
    private static void probesMeetProbing() {
        int[] states = {1, 1, 2, 2, 3, 3};
        for (int time = 0; time <= 5; time++) {
            for (int port = 4; port <= 6; port++) {
                LinkDirectory x = Stage.passed(one(), time);
                addTo(x, 1, "x", port);
                x.pass(1);
                is("PROBES as the probe comes", states[time], x.service(0, 6));
                x.pass(1);
                String what = "a probe with the PORT " + port + " at " + (time + 1);
                is(what, port >= 5 ? 1 : 0, x.service(0, 9));
                if (port >= 5) {
                    serviceIs(what, x, 0, 0, 0, time + 5);
                    is(what + ": the event", 1, x.log(0, 0));
                }
            }
        }
        // It has sent no probe yet, as it is added before the probe comes.
        for (int port = 4; port <= 7; port++) {
            LinkDirectory y = Check.loaded("hosts a b;types t;service b t x 6 100;");
            y.pass(1);
            int added = addTo(y, 0, "x", port);
            y.pass(1);
            is("PROBES 0: not lost", 0, y.service(added, 9));
            serviceIs("PROBES 0", y, added, 0, 1, 3);
            y.pass(2);
            is("PROBES 1", port <= 6 ? 1 : 0, y.service(added, 9));
            is("the other one", port <= 6 ? 0 : 1, y.service(0, 9));
        }
    }

    /** "If it is announcing or established, the host sends a response for it", whatever its DATA are. */
    private static void probesMeetOthers() {
        // Not at 7 and 11, for the responses of 6 and 10 rename the service of b before it probes.
        for (int time : new int[] {6, 8, 9, 10, 12, 13}) {
            for (int port : new int[] {1, 5, 999}) {
                LinkDirectory x = Check.loaded("hosts a b c;types t;service a t x 5 77;");
                x.pass(time);
                addTo(x, 1, "x", port);
                x.pass(1);
                int sent = x.count(4);
                x.pass(1);
                int own = time + 1 == 10 ? 1 : 0;
                is("a defence at " + (time + 1), sent + 1 + own, x.count(4));
                is("its host", 0, x.message(0, 2));
                is("its kind", 1, x.message(0, 0));
                is("its TTL", 77, x.message(0, 6));
                is("not lost", 0, x.service(0, 9));
                is("no conflict", 0, x.service(0, 10));
            }
        }
        // A withdrawn service does not defend its name, and one with another name has none to defend.
        LinkDirectory y = Stage.passed(one(), 12);
        y.withdraw(0);
        addTo(y, 1, "x", 4);
        y.pass(2);
        is("the goodbye and a probe", 7, y.count(4));
        LinkDirectory z = Stage.passed(one(), 12);
        addTo(z, 1, "y", 4);
        z.pass(2);
        is("a probe alone", 6, z.count(4));
    }

    /** A service that loses at t "begins to probe with ALARM t + 4", and so do those that are renamed with t + 1. */
    private static void lostUntilAlarm() {
        Stage two = new Stage("a new object", LinkDirectory::new);
        int[] messages = {3, 0, 2, 0, 1, 1, 2};
        for (int time = 0; time < messages.length; time++) {
            int passed = time;
            two.due("messages in the tick " + time, messages[time], x -> {
                Stage.passed(x, passed);
                return x.pass(1);
            });
        }
        for (int time = 2; time <= 5; time++) {
            LinkDirectory x = Stage.passed(new LinkDirectory(), time);
            serviceIs("lost at 1, now " + time, x, 0, 0, 0, 5);
        }
        serviceIs("it probes at 5", Stage.passed(new LinkDirectory(), 6), 0, 0, 1, 7);
        serviceIs("renamed at 7", Stage.passed(new LinkDirectory(), 8), 0, 0, 0, 8);
        serviceIs("it probes at 8", Stage.passed(new LinkDirectory(), 9), 0, 0, 1, 10);
    }

    /** "If it is probing, it is renamed", whatever its PROBES and its DATA are. */
    private static void responsesMeetProbing() {
        for (int port : new int[] {1, 5, 999}) {
            // The response of 10 comes at 11, to a service that has sent no probe.
            LinkDirectory x = Stage.passed(one(), 11);
            int added = addTo(x, 1, "x", port);
            x.pass(1);
            is("PROBES 0", 2, x.service(added, 2));
            // The probes are sent at 20, 22 and 24; so many defences are lost before one comes.
            for (int lost = 0; lost <= 3; lost++) {
                LinkDirectory y = Stage.passed(one(), 20);
                int other = addTo(y, 1, "x", port);
                for (int defence = 0; defence < lost; defence++) {
                    y.mark(6 + 2 * defence);
                }
                int time = lost < 3 ? 20 + 2 * lost + 2 : 26;
                y.pass(time - 20);
                is("not yet renamed", 0, y.service(other, 2));
                is("PROBES", Math.min(3, lost + 1), y.service(other, 6));
                y.pass(1);
                is("renamed behind " + (lost + 1) + " probes", lost < 3 ? 2 : 0, y.service(other, 2));
                if (lost < 3) {
                    // The response came in the tick of that time, and it probes in the next one.
                    serviceIs("renamed", y, other, 0, 0, time + 1);
                    is("the event", 0, y.log(0, 0));
                    y.pass(1);
                    serviceIs("a tick later", y, other, 0, 1, time + 3);
                } else {
                    is("announcing", 1, y.service(other, 5));
                }
            }
        }
    }

    /** "If it is announcing or established and its DATA are smaller, there is a conflict." */
    private static void responsesMeetOthers() {
        // Both are announcing from 6 on, and established from 10 on; the responses of these times are not to be heard.
        for (int time : new int[] {8, 9, 12, 13}) {
            for (int port = 5; port <= 7; port++) {
                LinkDirectory x = Check.loaded("hosts a b;types t;service b t x 6 100;service a t x 6 100;");
                x.setSide(0, 1);
                x.pass(time);
                x.setSide(0, 0);
                x.setPort(1, port);
                x.pass(2);
                String what = "a response with the PORT " + port + " at " + (time + 1);
                boolean isConflict = port > 6;
                is(what, isConflict ? 1 : 0, x.service(0, 10));
                is(what, isConflict ? 1 : 0, x.count(9));
                if (isConflict) {
                    serviceIs(what, x, 0, 0, 0, time + 2);
                    is(what + ": with its name", 0, x.service(0, 2));
                    x.pass(1);
                    serviceIs(what + ", a tick later", x, 0, 0, 1, time + 4);
                }
            }
        }
        // A withdrawn service has no conflict, and it does not answer, whatever its DATA are.
        for (int port : new int[] {1, 5, 6, 7, 999}) {
            LinkDirectory y = Scenes.joined(5, 6);
            y.withdraw(1);
            y.pass(3);
            int sent = y.count(4);
            y.setPort(0, port);
            y.pass(3);
            is("one response alone", sent + 1, y.count(4));
            is("no conflict", 0, y.count(9));
            is("no renaming", 0, y.count(8));
            is("withdrawn still", 3, y.service(1, 5));
        }
    }

    /** What a response does at one host does not depend on what it does at another one. */
    private static void responseMeetsMany() {
        for (int port : new int[] {1, 5, 6, 7, 999}) {
            // The service of c is withdrawn, that of d has another name; b sends the response.
            LinkDirectory x = Check.loaded("hosts a b c d;types t;service a t x 5 100;service b t x 6 100;"
                + "service c t x 999 100;service d t y 1 100;");
            x.withdraw(2);
            x.setSide(0, 1);
            x.pass(12);
            x.setSide(0, 0);
            int sent = x.count(4);
            x.setPort(1, port);
            x.pass(2);
            is("a response of b, and one of a, if it has greater DATA", sent + (port < 5 ? 2 : 1), x.count(4));
            is("conflicts", port < 5 ? 0 : 1, x.count(9));
            is("renamings", 0, x.count(8));
            serviceIs("withdrawn", x, 2, 3, 0, NONE);
            serviceIs("another name", x, 3, 2, 3, NONE);
            for (int host : new int[] {0, 2, 3}) {
                is("the record of " + host, port, x.known(host, 1));
            }
        }
    }

    /** "A goodbye is only put into the cache": it renames nothing, and it is no conflict. */
    private static void goodbyesMeetServices() {
        LinkDirectory x = Scenes.joined(5, 6);
        x.withdraw(1);
        x.pass(2);
        serviceIs("established still", x, 0, 2, 3, NONE);
        is("no answer", 0, x.count(6));
        LinkDirectory y = Scenes.joined(6, 5);
        y.withdraw(1);
        y.pass(2);
        is("no answer of the greater one", 0, y.count(6));
        // The goodbye is sent at 12, and comes to a service that began to probe then.
        LinkDirectory z = Stage.passed(one(), 12);
        z.withdraw(0);
        int added = addTo(z, 1, "x", 4);
        z.pass(2);
        is("not renamed", 0, z.service(added, 2));
    }

    /** Announcing and established services answer a query for their type, if they are not known. */
    private static void queriesMeetServices() {
        for (int time = 0; time <= 12; time++) {
            LinkDirectory x = Stage.passed(Check.loaded("hosts a b;types t u;service a t x 5 100;service a u y 5 100;"), time);
            x.setOn(1, false, false);
            x.setOn(1, true, false);
            x.browse(1, 0, true);
            x.pass(1);
            // The query comes in the next tick, before services act; what came with it in the last tick is known.
            int comes = time + 1;
            boolean answers = comes > 6 && comes != 8 && comes != 12;
            boolean act = comes == 2 || comes == 4 || comes == 6 || comes == 10;
            is("messages at " + comes, (answers ? 1 : 0) + (act ? 2 : 0), x.pass(1));
            if (answers) {
                is("an answer", 1, x.message(0, 0));
                is("of the type", 0, x.message(0, 3));
            }
            is("suppressed at " + comes, comes == 8 || comes == 12 ? 1 : 0, x.count(10) > 0 && x.log(0, 0) == 5 ? 1 : 0);
        }
        LinkDirectory y = Stage.passed(one(), 12);
        y.withdraw(0);
        y.pass(5);
        y.browse(1, 0, true);
        y.pass(1);
        is("a withdrawn service does not answer", 0, y.pass(1));
    }

    // ---- browsers

    /** Known answers are "alive for more than half of their TTL (rounded down) from now on". */
    private static void halfOfTheTtl() {
        for (int ttl : new int[] {20, 21, 22, 23, 100, 101, 998, 999, 1000}) {
            // Born at 11: the last time at which more than half is left.
            int last = 11 + ttl - ttl / 2 - 1;
            for (int time = last - 1; time <= last + 2; time++) {
                LinkDirectory x = Stage.passed(Check.loaded("hosts a b;types t;service a t x 5 " + ttl + ";"), time);
                x.browse(1, 0, true);
                x.pass(1);
                int known = time <= last ? 1 : 0;
                is("TTL " + ttl + ": known answers at " + time, known, x.message(0, 7));
                is("TTL " + ttl + ": answers at " + time, 1 - known, x.pass(1));
                is("TTL " + ttl + ": suppressed at " + time, known, x.log(0, 0) == 5 ? 1 : 0);
            }
        }
    }

    /** An answer is known by its name with its DATA. */
    private static void knownAnswers() {
        for (int port = 4; port <= 6; port++) {
            LinkDirectory x = Stage.passed(one(), 20);
            x.mark(5);
            x.setPort(0, port);
            x.pass(10);
            // The response as it was established again renewed the record, so that one is lost, too.
            LinkDirectory y = Stage.passed(one(), 20);
            y.mark(5);
            y.mark(6);
            y.setPort(0, port);
            y.pass(10);
            for (LinkDirectory each : new LinkDirectory[] {x, y}) {
                boolean isOld = each == y;
                is("the PORT that is known", isOld ? 5 : port, each.known(1, 0));
                each.browse(1, 0, true);
                each.pass(1);
                is("known answers", 1, each.message(0, 7));
                is("answers", isOld && port != 5 ? 1 : 0, each.pass(1));
            }
        }
        // Only those of the type are, one of three and two of three.
        Stage types = Stage.of("hosts a b;types t u;service a t x 5 100;service a u y 5 100;service a t z 5 100;", 12)
            .behind("b asks for both", x -> x.browse(1, 0, true) + x.browse(1, 1, true) + x.pass(1));
        types.due("of t", 2, x -> x.message(0, 7));
        types.due("of u", 1, x -> x.message(1, 7));
        types.due("none answers", 0, x -> x.pass(1));
        // All records of a full cache are known answers, if they are alive for long enough.
        LinkDirectory w = Scenes.fifteenRecords();
        Scenes.addTo(w, "p", 1000);
        w.pass(8);
        w.browse(2, 0, true);
        w.pass(1);
        is("16 known answers", 16, w.message(w.count(6) - 1, 7));
        is("none answers", 0, w.pass(1));
        // Five hosts ask again and again; each query has the records as known answers that are alive for long enough.
        Stage full = new Stage("five that ask", Scenes::full).behind("browsing", x -> x.browse(0, 3, true)
            + x.browse(1, 3, true) + x.browse(2, 3, true) + x.browse(3, 3, true) + x.browse(4, 3, true));
        int time = 12;
        for (int ask = 0; ask < 16; ask++) {
            int ticks = time + 1 - 12;
            LinkDirectory v = Stage.passed(full.make(), ticks);
            int first = v.count(6) - 5 - (v.message(v.count(6) - 1, 2) == 5 ? 1 : 0);
            for (int host = 0; host < 5; host++) {
                int alive = 0;
                for (int place = 0; place < v.host(host, 3); place++) {
                    alive += v.record(host, place, 7) - time > v.record(host, place, 4) / 2 ? 1 : 0;
                }
                is("the query of " + host + " at " + time, host, v.message(first + host, 2));
                is("its known answers", alive, v.message(first + host, 7));
            }
            time += Math.min(64, 2 << ask);
        }
        // The same name and PORT at another host is another answer.
        LinkDirectory z = Check.loaded("hosts a b c;types t;service a t x 6 100;service b t x 6 100;");
        z.setSide(0, 1);
        z.pass(12);
        z.setSide(0, 0);
        z.browse(2, 0, true);
        z.pass(1);
        is("that of b is known", 1, z.message(0, 7));
        is("a answers", 1, z.pass(1));
        is("it is a", 0, z.message(0, 2));
    }

    /** A record that is born at 11, and a browser that asks at 13, 15, 19, 27, 43, 75 and every 64 ticks from then on. */
    private static Stage refreshed(int ttl, int time) {
        return Stage.of("hosts a b;types t;service a t x 5 " + ttl + ";", 13).behind("browsed until " + time, x -> {
            x.setOn(0, false, false);
            x.browse(1, 0, true);
            return Stage.passed(x, time - 13).count(3);
        });
    }

    /** A record is refreshed from BORN + TTL * (80 + 5 * AGE) / 100 on, as long as its AGE is below 4. */
    private static void refreshTimes() {
        for (int ttl : new int[] {20, 33, 39, 61, 100, 101, 119, 999, 1000}) {
            int age = 0;
            int refreshes = 0;
            int asks = 13;
            int interval = 2;
            for (int time = 13; time < 11 + ttl; time++) {
                boolean isDue = age < 4 && time >= 11 + ttl * (80 + 5 * age) / 100;
                boolean isTime = time == asks;
                age += isDue ? 1 : 0;
                refreshes += isDue && !isTime ? 1 : 0;
                asks += isTime ? interval : 0;
                interval = isTime ? Math.min(64, interval * 2) : interval;
                boolean isNear = time + 1 >= 11 + ttl * (80 + 5 * Math.min(3, age)) / 100;
                if (isDue || isTime || isNear) {
                    Stage stage = refreshed(ttl, time);
                    stage.due("queries", isDue || isTime ? 1 : 0, x -> x.pass(1));
                    Stage behind = stage.behind("a tick", x -> x.pass(1));
                    behind.due("AGE", age, x -> x.record(1, 0, 6));
                    behind.due("refreshes", refreshes, x -> x.browser(1, 0, 3));
                    behind.due("TIME", asks, x -> x.browser(1, 0, 0));
                }
            }
            refreshed(ttl, 11 + ttl).due("AGE at last", 4, x -> x.record(1, 0, 6));
            refreshed(ttl, 12 + ttl).due("expired", 0, x -> x.host(1, 3));
        }
    }

    /** "AGE becomes greater by 1 for each record of its type for which that holds", by questions in time, too. */
    private static void ageOfRecords() {
        // The record expires at 111, and was never asked for: it becomes older by one in each tick.
        LinkDirectory x = Stage.passed(one(), 107);
        x.setOn(0, false, false);
        x.browse(1, 0, true);
        int[] refreshes = {0, 1, 1, 2};
        for (int tick = 0; tick < 4; tick++) {
            is("AGE before the tick " + (107 + tick), tick, x.record(1, 0, 6));
            is("a query", 1, x.pass(1));
            is("refreshes", refreshes[tick], x.browser(1, 0, 3));
            is("queries", tick + 1, x.browser(1, 0, 2));
        }
        is("AGE 4", 4, x.record(1, 0, 6));
        x.pass(1);
        is("expired", 0, x.host(1, 3));
        // AGE 4 is no more refreshed: with a TTL of 200 there is time for it.
        LinkDirectory y = Check.loaded("hosts a b;types t;service a t x 5 200;service a t y 5 210;browse b t;");
        y.pass(12);
        y.setOn(0, false, false);
        y.pass(100);
        y.pass(89);
        // The records are born at 11; at 171, 181, 191 and 201 one is due, the other at 179, 189, 200 and 210.
        is("time", 201, y.count(3));
        is("AGE of x", 3, y.record(1, 0, 6));
        is("AGE of y", 3, y.record(1, 1, 6));
        is("the tick 201", 1, y.pass(1));
        is("AGE of x", 4, y.record(1, 0, 6));
        is("AGE of y", 3, y.record(1, 1, 6));
        is("the ticks 202 to 209", 0, y.pass(8));
        is("the tick 210", 1, y.pass(1));
        is("AGE of x", 4, y.record(1, 0, 6));
        is("AGE of y", 4, y.record(1, 1, 6));
        is("no more", 0, y.pass(40));
        // A record that is renewed has AGE 0: it is refreshed at 27, and the answer of 28 comes at 29.
        Stage z = Stage.of("hosts a b;types t;service a t x 5 20;browse b t;", 27);
        int[][] ages = {{11, 0}, {11, 1}, {11, 2}, {29, 0}, {30, 0}};
        for (int ticks = 0; ticks < ages.length; ticks++) {
            int passed = ticks;
            z.due("BORN at " + (27 + ticks), ages[ticks][0], each -> Stage.passed(each, passed).record(1, 0, 5));
            z.due("AGE at " + (27 + ticks), ages[ticks][1], each -> Stage.passed(each, passed).record(1, 0, 6));
        }
        // Records of other types are not refreshed.
        LinkDirectory w = Check.loaded("hosts a b;types t u;service a u x 5 20;browse b t;");
        w.pass(31);
        recordIs("of another type", w, 1, 0, 1, 0, 5, 0, 20, 11, 0, 31);
    }

    /** "INTERVAL is doubled (64 at most)"; it asks if "TIME is t or earlier". */
    private static void intervals() {
        int[] asks = {0, 2, 6, 14, 30, 62, 126, 190, 254};
        int[] intervals = {2, 4, 8, 16, 32, 64, 64, 64, 64, 64};
        for (int begin : new int[] {0, 1, 50}) {
            Stage browser = new Stage("a browser from " + begin + " on", () -> {
                LinkDirectory x = Stage.passed(Check.loaded("hosts a;types t;"), begin);
                x.browse(0, 0, true);
                return x;
            });
            int asked = 0;
            for (int time = 0; time <= 255; time++) {
                int passed = time;
                asked += asked < asks.length && asks[asked] < time ? 1 : 0;
                int next = asked < asks.length ? asks[asked] : 318;
                browser.due("TIME behind " + time, begin + next, x -> Stage.passed(x, passed).browser(0, 0, 0));
                browser.due("INTERVAL behind " + time, intervals[asked], x -> Stage.passed(x, passed).browser(0, 0, 1));
                browser.due("queries behind " + time, asked, x -> Stage.passed(x, passed).browser(0, 0, 2));
            }
        }
    }

    // ---- a tick

    /** "If it is probing and PROBES are less than 3, it sends a probe"; "if it is probing otherwise", a response. */
    private static void threeProbes() {
        int[] kinds = {0, NONE, 0, NONE, 0, NONE, 1, NONE, NONE, NONE, 1, NONE};
        for (int time = 0; time < kinds.length; time++) {
            int kind = kinds[time];
            one(time).due("messages in the tick " + time, kind == NONE ? 0 : 1, x -> x.pass(1));
            one(time + 1).due("the message of the tick " + time, kind == NONE ? Check.THROWS_INDEX : kind, x ->
                x.message(0, 0));
        }
        one(12).due("nothing more", 0, x -> x.messagesIn(100));
    }

    /** Services act if "ALARM is t or earlier": in the tick of ALARM, and not in the tick before. */
    private static void alarms() {
        int[][] states = {{0, 0, 0}, {0, 1, 2}, {0, 1, 2}, {0, 2, 4}, {0, 2, 4}, {0, 3, 6}, {0, 3, 6}, {1, 3, 10},
            {1, 3, 10}, {1, 3, 10}, {1, 3, 10}, {2, 3, NONE}, {2, 3, NONE}};
        for (int time = 0; time < states.length; time++) {
            LinkDirectory x = Stage.passed(one(), time);
            serviceIs("at " + time, x, 0, states[time][0], states[time][1], states[time][2]);
            int alarm = states[time][2];
            int reason = states[time][0] == 2 ? 0 : states[time][0] == 1 ? 3 : 5;
            is("why at " + time, reason, x.why(0, 0));
            is("its cause at " + time, reason == 0 ? NONE : reason == 3 ? alarm - time : 3 - states[time][1], x.why(0, 1));
        }
        // It lost at 1, and its ALARM is 5: at 4 this is later than the present time, at 5 it is not.
        for (int time = 2; time <= 5; time++) {
            LinkDirectory x = Stage.passed(new LinkDirectory(), time);
            is("why at " + time, time < 5 ? 4 : 5, x.why(0, 0));
            is("its cause at " + time, time < 5 ? 5 - time : 3, x.why(0, 1));
        }
    }

    // ---- hosts that go

    private static final String FOUR = "hosts a b;types t;service a t x 5 100;service a t y 5 100;service a t z 5 100;"
        + "service a t w 5 100;service b t v 5 100;browse a t;browse b t;";

    /** Four services of a that are established, announcing, probing and withdrawn. */
    private static LinkDirectory fourStates() {
        LinkDirectory x = Check.loaded(FOUR);
        x.pass(12);
        x.setPort(1, 6);
        x.withdraw(3);
        x.pass(2);
        int added = addTo(x, 0, "u", 7);
        is("the service that probes", 5, added);
        x.withdraw(2);
        x.pass(1);
        for (int service : new int[] {0, 1, 2, 3, 5}) {
            is("the state of " + service, new int[] {2, 1, 3, 3, 2, 0}[service], x.service(service, 5));
        }
        return x;
    }

    /** Goodbyes for announcing and established services, if it goes politely; no cache, browser or ALARM. */
    private static void goingOff() {
        for (boolean isPolite : new boolean[] {true, false}) {
            LinkDirectory x = fourStates();
            is("records before", 1, x.host(0, 3));
            int sent = x.count(4);
            int under = x.count(6);
            is("hosts that are on", 1, x.setOn(0, false, isPolite));
            is("goodbyes", sent + (isPolite ? 2 : 0), x.count(4));
            for (int place = under; place < x.count(6); place++) {
                is("the TTL of a goodbye", 0, x.message(place, 6));
                is("the PORT of a goodbye", place == under ? 5 : 6, x.message(place, 5));
            }
            is("records", 0, x.host(0, 3));
            is("browsers", 0, x.host(0, 4));
            is("no browser", NONE, x.browser(0, 0, 0));
            is("browsers of b", 1, x.host(1, 4));
            int[] states = {2, 1, 3, 3, 2, 0};
            for (int service : new int[] {0, 1, 2, 3, 5}) {
                is("the state stays", states[service], x.service(service, 5));
                is("no ALARM", NONE, x.service(service, 7));
            }
            int more = x.count(4);
            is("off already", 1, x.setOn(0, false, true));
            is("no more goodbyes", more, x.count(4));
            int ofA = x.host(0, 5);
            x.pass(30);
            is("it sends nothing", ofA, x.host(0, 5));
            is("it hears nothing", 0, x.host(0, 3));
        }
    }

    /** On again, its services that are not withdrawn begin to probe, with the names that they have. */
    private static void comingOn() {
        for (int away : new int[] {0, 1, 30}) {
            LinkDirectory x = Stage.passed(fourStates(), 0);
            x.setOn(0, false, false);
            Stage.passed(x, away);
            x.setOn(0, true, true);
            for (int service : new int[] {0, 1, 5}) {
                serviceIs("on again behind " + away, x, service, 0, 0, 15 + away);
            }
            for (int service : new int[] {2, 3}) {
                is("withdrawn", 3, x.service(service, 5));
                is("without ALARM", NONE, x.service(service, 7));
            }
            is("no browser", 0, x.host(0, 4));
            x.pass(1);
            is("it probes at once", 1, x.service(0, 6));
            is("on already", 2, x.setOn(0, true, false));
            is("its probes go on", 1, x.service(0, 6));
        }
        LinkDirectory y = Stage.passed(new LinkDirectory(), 20);
        y.setOn(0, false, true);
        y.setOn(0, true, true);
        is("with the NUMBER that it has", 2, y.service(0, 2));
        serviceIs("on again", y, 0, 0, 0, 20);
    }

    // ---- the log

    /** "THE LOG has the latest 20 events, the latest one first." */
    private static void twentyEvents() {
        for (int number = 18; number <= 24; number++) {
            int events = number;
            Stage log = new Stage(number + " events", () -> Scenes.events(events));
            int kept = Math.min(20, number);
            log.due("count(10)", kept, x -> x.count(10));
            log.due("the first message of the log", Math.max(0, number - 20), x -> x.log(kept - 1, 2));
            log.due("no more", Check.THROWS_INDEX, x -> x.log(kept, 2));
            log.due("the latest one", number == 18 ? 3 : 6, x -> x.log(0, 0));
            log.due("whose", number == 18 ? 2 : number - 4, x -> x.log(0, 2));
            log.due("all are lost", number - 3, x -> x.count(5));
        }
        // An event that came to a full log is undone: the first one is there again.
        Stage full = new Stage("20 events, and two undone", () -> Scenes.events(22));
        for (int undone = 0; undone <= 2; undone++) {
            int times = undone;
            full.due("the first message of the log", 2 - undone, x -> undo(x, times).log(19, 2));
            full.due("the latest message of the log", 18 - undone, x -> undo(x, times).log(0, 2));
        }
        Stage made = new Stage("a new object", LinkDirectory::new);
        int[] atTimes = {0, 0, 1, 1, 1, 1, 1, 1, 2, 2, 2, 3};
        for (int time = 0; time < atTimes.length; time++) {
            int passed = time;
            made.due("events at " + time, atTimes[time], x -> Stage.passed(x, passed).count(10));
        }
    }

    private static LinkDirectory undo(LinkDirectory x, int times) {
        for (int time = 0; time < times; time++) {
            x.undo();
        }
        return x;
    }
}
