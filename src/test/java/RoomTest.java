import java.lang.management.ManagementFactory;

/**
 * What 512 calls make must stay small: all objects of a run live in one room of some 600,000 objects with 7.3
 * million fields and elements. Four bytes stand for a field here, so that a run may make some 29 million bytes;
 * the test allows a quarter of them. It also looks whether such runs throw anything that the document does not name.
 */
public final class RoomTest {
    private static final long MOST_BYTES = 7_300_000;
    private static final String SIX = "hosts a b c d e f;types t;service a t x 1 1000;service b t x 2 1000;"
        + "service c t x 3 1000;service d t x 4 1000;service e t x 5 1000;service f t x 600 1000;"
        + "lose 0 1 2 3 4 5 6 7 8 9 10 11 12 13 14 15 16 17 18 19 20 21 22 23 24 25 26 27 28 29;";

    private RoomTest() {
    }

    public static void main(String[] args) {
        // The first round loads classes, which is not counted.
        for (int round = 0; round < 2; round++) {
            boolean isCounted = round > 0;
            within("loads", isCounted, RoomTest::loads);
            within("foretelling", isCounted, RoomTest::foretelling);
            within("changes", isCounted, RoomTest::changes);
            within("messages", isCounted, RoomTest::messages);
            within("storm", isCounted, RoomTest::storm);
            within("errors", isCounted, RoomTest::errors);
        }
        Check.end();
    }

    private static void within(String name, boolean isCounted, Runnable run) {
        com.sun.management.ThreadMXBean counter = (com.sun.management.ThreadMXBean) ManagementFactory.getThreadMXBean();
        long thread = Thread.currentThread().getId();
        long before = counter.getThreadAllocatedBytes(thread);
        run.run();
        long bytes = counter.getThreadAllocatedBytes(thread) - before;
        if (isCounted) {
            Check.same(name + ": " + bytes + " bytes are too many", 1, bytes < MOST_BYTES ? 1 : 0);
        }
    }

    private static void loads() {
        LinkDirectory x = new LinkDirectory();
        for (int call = 0; call < 500; call += 3) {
            x.append(0x686f7374, 0x73206120, 0x623b7479, 0x70657320, 0x743b2020);
            x.truncate(18);
            x.load();
        }
    }

    private static void foretelling() {
        LinkDirectory x = new LinkDirectory();
        x.pass(3);
        for (int call = 0; call < 500; call += 5) {
            x.establishedIn(0);
            x.numberIn(0, 100);
            x.knownIn(1, 0);
            x.messagesIn(100);
            x.freshIn();
        }
    }

    private static void changes() {
        LinkDirectory x = new LinkDirectory();
        for (int call = 0; call < 500; call += 5) {
            x.setOn(0, call % 2 == 0, true);
            x.pass(40);
            x.setPort(1, 1 + call);
            x.save(call % 2);
            x.undo();
        }
    }

    /** Very many parts: each response of a is answered by five hosts, and all that is under way is kept ten times. */
    private static void messages() {
        LinkDirectory x = Check.loaded(SIX);
        x.pass(11);
        Check.same("all six are established", 15, x.clashes());
        for (int call = 0; call < 450; call++) {
            x.setPort(0, 1 + call % 2);
        }
        x.pass(1);
        int most = 0;
        for (int tick = 0; tick < 4; tick++) {
            x.pass(1);
            most = Math.max(most, x.count(6));
            x.save(tick % 2);
            x.messagesIn(5);
        }
        Check.same("thousands of messages: " + most, 1, most > 2200 ? 1 : 0);
        for (int call = 0; call < 5; call++) {
            x.undo();
            x.pass(1);
        }
    }

    /** As many messages as calls can bring about: all that is under way is answered by five hosts in each tick. */
    private static void storm() {
        LinkDirectory x = Check.loaded(SIX);
        x.pass(11);
        for (int call = 0; call < 60; call++) {
            x.setPort(0, 1 + call);
        }
        for (int port = 601; port < 655; port++) {
            for (int service = 0; service < 6; service++) {
                x.setPort(service, port);
            }
            x.pass(1);
            if (port > 652) {
                x.save(port % 2);
                x.messagesIn(100);
            }
        }
        Check.same("more messages than an int tells", Integer.MAX_VALUE, x.count(6));
        x.pass(100);
        Check.same("all have come", 0, x.count(6));
    }

    private static void errors() {
        LinkDirectory x = new LinkDirectory();
        for (int call = 0; call < 500; call++) {
            int wrong = call - 250;
            Check.answerOf((Check.Call) () -> x.record(wrong, wrong, wrong));
        }
    }
}
