/** Situations on a link that several tests begin with. */
final class Scenes {
    private Scenes() {
    }

    /** Two services with one name that were established on two sides, at 12 on one side. */
    static LinkDirectory joined(int portOfA, int portOfB) {
        LinkDirectory x = Check.loaded("hosts a b;types t;service a t x " + portOfA + " 100;service b t x "
            + portOfB + " 100;");
        x.setSide(0, 1);
        x.pass(12);
        x.setSide(0, 0);
        return x;
    }

    /** At 52, when something of everything has happened: losses, a conflict, renamings, and records that expired. */
    static LinkDirectory lively() {
        LinkDirectory x = Check.loaded("hosts a b c;types t u;service a t x 5 20;service b t x 6 90;service c u y 7 80;"
            + "browse a t;browse c u;lose 9 50;");
        x.setSide(0, 1);
        x.pass(12);
        x.setSide(0, 0);
        x.setPort(1, 6);
        x.pass(40);
        return x;
    }

    /** The time, with a service of a that is established and known to b. */
    static LinkDirectory atTime(int time) {
        return Stage.passed(Check.loaded("hosts a b;types t;service a t x 80 1000;"), time);
    }

    /**
     * The cache of c with 15 records: x and w, each with six NUMBERs, y, z and v. Of these y and z expire first, both
     * at 611; v expires later, at 625, though its TTL is smaller; x and w are older than these, and have the TTL 1000.
     */
    static LinkDirectory fifteenRecords() {
        return fifteenRecords(1000, 1000);
    }

    /** The same with other TTLs of x and w. */
    static LinkDirectory fifteenRecords(int ttlOfX, int ttlOfW) {
        LinkDirectory x = Check.loaded("hosts a b c;types t;service a t x 5 " + ttlOfX + ";service b t x 6 " + ttlOfX
            + ";service a t w 5 " + ttlOfW + ";service b t w 6 " + ttlOfW + ";service a t y 5 600;service a t z 5 600;");
        x.setSide(1, 1);
        x.pass(12);
        for (int name = 2; name <= 6; name++) {
            if (name == 5) {
                addTo(x, "v", 560);
            }
            renameBoth(x);
        }
        x.pass(12);
        return x;
    }

    /** Adds a service of a. */
    static int addTo(LinkDirectory x, String base, int ttl) {
        return addTo(x, 0, base, 5, ttl);
    }

    static int addTo(LinkDirectory x, int host, String base, int port, int ttl) {
        Check.put(x, base);
        return x.add(host, 0, port, ttl);
    }

    /**
     * The services of a and b give up their common names both at once, for b sends two responses for each of them, a
     * sends one, and b begins to probe anew before these come.
     */
    private static void renameBoth(LinkDirectory x) {
        x.pass(12);
        x.setSide(1, 0);
        for (int service = 0; service < 4; service += 2) {
            x.setPort(service + 1, 6);
            x.setPort(service + 1, 6);
            x.setPort(service, 5);
        }
        x.setOn(1, false, false);
        x.setOn(1, true, false);
        x.pass(2);
        x.setSide(1, 1);
    }

    /**
     * At 60; a new service of b for the name of service 0 would begin to probe at once, and again 9 ticks later as
     * often as a's three defences are lost: it announces then, and loses a conflict. Behind these rounds it is renamed
     * by a defence (3 ticks, and 2 more for each further one that is lost), and once more for each other name that is
     * taken (3 ticks), and established in the 14th tick behind that.
     */
    static LinkDirectory heldUp(int rounds, int more, int names) {
        StringBuilder text = new StringBuilder("hosts a b c d e f;types t;service a t x 500 1000;");
        for (int name = 0; name < names; name++) {
            text.append("service ").append("cdef".charAt(name)).append(" t x ").append(40 - name).append(" 1000;");
        }
        LinkDirectory x = Check.loaded(text.toString());
        x.pass(60);
        int sent = x.count(4);
        for (int round = 0; round <= rounds; round++) {
            for (int defence = 0; defence < (round < rounds ? 3 : more); defence++) {
                x.mark(sent + 8 * round + 2 * defence + 1);
            }
        }
        return x;
    }

    /**
     * At 163, a NUMBER that depends on the TTL of a new service q of f with the PORT 500. Its first three probes are
     * not defended, for the defences of c are lost; so c has its record, born at 170. Then c has 16 records, and y-2 of
     * f drives out the one that expires first: that of r, which stands before it, or that of q. If r goes, c's question
     * of 174 is answered by r once more, and all messages behind that have other numbers. The last three marks lose the
     * defences of q-2, so that the new service keeps this name, but only if the numbers are the right ones: if r goes
     * (it expires at 270, when a record of q with the TTL 100 does, too), or if q goes (r expires at 271).
     */
    static LinkDirectory secondToExpire(boolean isFirst) {
        LinkDirectory x = Check.loaded("hosts a b c d e f;types t;service a t x 5 1000;service b t x 6 1000;"
            + "service a t w 5 1000;service b t w 6 1000;service d t y 5 1000;service c t g 7 1000;"
            + "service e t g 3 1000;service c t q 900 1000;");
        x.setSide(1, 1);
        x.setSide(4, 1);
        x.pass(12);
        for (int name = 2; name <= 6; name++) {
            renameBoth(x);
        }
        x.pass(12);
        addTo(x, 3, "q", 4, 1000);
        x.pass(16);
        addTo(x, 3, "r", 8, isFirst ? 149 : 150);
        x.pass(2);
        x.browse(2, 0, true);
        x.pass(48);
        // e answers for g at 175, and c answers to that: before the first defence of q-2.
        x.setSide(4, 0);
        x.pass(3);
        addTo(x, 5, "y", 2, 1000);
        int[] marks = isFirst ? new int[] {3, 5, 8, 21, 24, 28} : new int[] {3, 5, 8, 20, 23, 27};
        for (int mark : marks) {
            x.mark(x.count(4) + mark);
        }
        return x;
    }

    /**
     * Five established services of a name, whose ports are raised in each tick, so that each response is answered by
     * the four others. Behind 1, 2, 3, 4 and 5 turns 30, 55, 160, 585 and 2290 messages have been sent.
     */
    static LinkDirectory storm(int turns) {
        StringBuilder text = new StringBuilder("hosts a b c d e;types t;");
        for (int host = 0; host < 5; host++) {
            text.append("service ").append("abcde".charAt(host)).append(" t x ").append(host + 1).append(" 99;");
        }
        text.append("lose");
        for (int message = 0; message < 25; message++) {
            text.append(' ').append(message);
        }
        LinkDirectory x = Check.loaded(text.append(';').toString());
        x.pass(11);
        for (int turn = 0; turn < turns; turn++) {
            stormOn(x, 10 + turn);
        }
        return x;
    }

    static void stormOn(LinkDirectory x, int port) {
        for (int service = 0; service < 5; service++) {
            x.setPort(service, port);
        }
        x.pass(1);
    }

    /** A log with 18 events or more: 15 messages that were lost, three services established, and more lost messages. */
    static LinkDirectory events(int number) {
        LinkDirectory x = Check.loaded("hosts a b;types t;service a t x 5 50;service b t y 5 50;service a t z 5 50;"
            + "lose 0 1 2 3 4 5 6 7 8 9 10 11 12 13 14 15 16 17 18 19 20 21 22 23 24;");
        x.pass(11);
        for (int event = 18; event < number; event++) {
            x.setPort(event % 3, 6);
        }
        return x;
    }

    /** Six hosts, four types, and twelve services of the last host and type, which are established and known. */
    static LinkDirectory full() {
        StringBuilder text = new StringBuilder("hosts a b c d e f;types t u v w;");
        for (char base = 'a'; base <= 'l'; base++) {
            text.append("service f w ").append(base).append(" 5 100;");
        }
        return Stage.passed(Check.loaded(text + "browse f w;"), 12);
    }
}
