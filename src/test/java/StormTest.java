import java.util.HashSet;
import java.util.Set;

/**
 * Storms: services with the same name answer each other's responses, and their ports are raised from tick to tick,
 * so that there are ever more messages. The runs are compared with Model, which holds every message.
 * The number of runs can be given as an argument, and the number that they begin with behind it.
 */
public final class StormTest extends ModelRun {
    private static final int MOST_MESSAGES = 12000, NONE = -1;

    private int port = 10;

    private StormTest(long seed) {
        super(seed);
    }

    public static void main(String[] args) {
        int runs = args.length > 0 ? Integer.parseInt(args[0]) : 100;
        int first = args.length > 1 ? Integer.parseInt(args[1]) : 0;
        new StormTest(0).manyMessages();
        for (int one = 0; one < 5; one++) {
            new StormTest(0).twoOfSix(one);
        }
        moreThanNumbersTell();
        for (int run = first; run < first + runs; run++) {
            new StormTest(run).run();
        }
        Check.end();
    }

    // ---- runs that are told

    /** Six established services of a name; each response is answered by the five others if their ports are raised. */
    private static String sixServices() {
        StringBuilder text = new StringBuilder("hosts a b c d e f;types t;");
        for (int host = 0; host < 6; host++) {
            text.append("service ").append((char) ('a' + host)).append(" t x ").append(host + 1).append(" 99;");
        }
        text.append("lose");
        for (int message = 0; message < 30; message++) {
            text.append(' ').append(message);
        }
        return text.append(';').toString();
    }

    private void manyMessages() {
        put(sixServices());
        change("load");
        change("pass", 11);
        change("setPort", 0, 1);
        change("pass", 1);
        change("pass", 1);
        for (port = 7; port <= 11; port++) {
            raiseAll();
        }
        Check.same("messages under way", 20311, number("count", 6));
        compareAll();
        foretellAll();
        change("save", 1);
        raiseAll();
        Check.same("messages a tick later", 101561, number("count", 6));
        compareAll();
        for (int times = 0; times < 7; times++) {
            change("undo");
        }
        Check.same("messages after undo()", 20311, number("count", 6));
        compareAll();
        change("pass", 1);
        compareAll();
        change("restore", 1);
        Check.same("messages after restore()", 20311, number("count", 6));
        compareAll();
        change("setSide", 2, 1);
        change("withdraw", 1);
        change("setOn", 3, false, true);
        for (int ticks = 0; ticks < 4; ticks++) {
            change("pass", 1);
            compareAll();
        }
        end();
    }

    private void raiseAll() {
        for (int service = 0; service < 6; service++) {
            change("setPort", service, port);
        }
        change("pass", 1);
    }

    private void foretellAll() {
        for (int service = 0; service < 6; service++) {
            call("establishedIn", service);
            call("numberIn", service, 1 + service);
            call("knownIn", 5 - service, service);
            call("messagesIn", service);
        }
        call("messagesIn", 100);
        call("freshIn");
        call("numberIf", 0, 0, 0, 500);
    }

    /**
     * Each of six hosts answers in the same storm; as it comes, two of them are on a side of their own, so that each
     * of the two hears the other one alone, whether it was the first or the last one that answered.
     */
    private void twoOfSix(int one) {
        put("hosts a b c d e f;types t;");
        change("load");
        for (int host = 0; host < 6; host++) {
            // The others are on the other side until its last response has come, so that all can have the same name.
            change("setSide", host, 1);
            put("x");
            change("add", host, 0, 2 + host, 99);
            change("pass", 12);
            change("setSide", host, 0);
        }
        change("setPort", 0, 1);
        change("pass", 1);
        change("pass", 1);
        raiseUnheard(10);
        change("pass", 1);
        Check.same("messages of all six", 25, number("count", 6));
        change("save", 0);
        for (int other = one + 1; other < 6; other++) {
            part(one, other, true);
            part(one, other, false);
        }
        end();
    }

    private void part(int one, int other, boolean areRaised) {
        change("restore", 0);
        change("setSide", one, 1);
        change("setSide", other, 1);
        if (areRaised) {
            raiseUnheard(11);
        }
        change("pass", 1);
        compareAll();
        change("pass", 1);
        compareAll();
    }

    /** Raises all ports; the responses that this sends are lost. */
    private void raiseUnheard(int newPort) {
        for (int service = 0; service < 6; service++) {
            change("mark", number("count", 4));
            change("setPort", service, newPort);
        }
    }

    /** The greatest int stands for greater numbers, and all calls still answer. */
    private static void moreThanNumbersTell() {
        LinkDirectory x = Check.loaded(sixServices());
        x.pass(11);
        int most = Integer.MAX_VALUE;
        for (int port = 7; port < 67; port++) {
            for (int service = 0; service < 6; service++) {
                x.setPort(service, port);
            }
            x.pass(1);
        }
        Check.due("messages sent", most, () -> x.count(4));
        Check.due("messages under way", most, () -> x.count(6));
        Check.due("messages of a host", most, () -> x.host(3, 5));
        Check.due("the last message that has a place", 66, () -> x.message(most - 1, 5));
        Check.due("no message has this place", Check.THROWS_INDEX, () -> x.message(most, 5));
        Check.due("a message that was sent", Check.THROWS_STATE, () -> x.mark(999));
        Check.due("messages to come", most, () -> x.messagesIn(1));
        x.pass(100);
        Check.due("all have come", 0, () -> x.count(6));
        Check.put(x, "y");
        Check.due("a new service", 6, () -> x.add(0, 0, 1, 100));
        Check.due("its probe is foretold", 1, () -> x.messagesIn(1));
        Check.due("its probe is sent", 1, () -> x.pass(1));
        Check.due("the number of its probe", most, () -> x.message(0, 1));
        Check.due("messages sent", most, () -> x.count(4));
    }

    // ---- runs that are chosen by a row of numbers

    private void run() {
        put(text());
        change("load");
        change("save", 0);
        change("pass", 11);
        compareAll();
        if (dice.isOneIn(3)) {
            meetOutsider();
        }
        int steps = dice.from(10, 40);
        for (int step = 0; step < steps && !isWrong && hasRoom(); step++) {
            if (number("count", 6) < MOST_MESSAGES) {
                raisePorts();
            } else {
                compareAll();
                goBack();
            }
            if (dice.isOneIn(4)) {
                disturb();
            }
            if (dice.isOneIn(4) && number("count", 4) < 1000) {
                // As long as a marked message is to be sent, the messages come one by one.
                change("mark", Math.min(999, number("count", 4) + dice.from(-1, 200)));
            }
            change("pass", dice.isOneIn(8) ? dice.from(1, 5) : 1);
            if (dice.isOneIn(3)) {
                compareAll();
            }
            if (dice.isOneIn(6)) {
                foretell();
            }
        }
        compareAll();
        end();
    }

    /**
     * A host that was on the other side meets a storm when those who sent the first messages have left: the first
     * message that changes something comes in the middle of many others.
     */
    private void meetOutsider() {
        int hosts = number("count", 0);
        int outsider = dice.below(hosts);
        int leader = outsider == hosts - 1 ? hosts - 2 : hosts - 1;
        change("setSide", outsider, 1);
        for (int turns = dice.from(2, 6); turns > 0; turns--) {
            raisePortsBut(outsider, dice.isOneIn(2) ? leader : NONE);
        }
        raisePortsBut(outsider, leader);
        port++;
        for (int host = 0; host < hosts; host++) {
            if (host != leader && host != outsider) {
                change("setPort", host, port);
                change("setSide", host, dice.isOneIn(8) ? 0 : 1);
            }
        }
        change("setSide", outsider, 0);
        change("pass", 1);
        compareAll();
    }

    private void raisePortsBut(int host, int other) {
        port++;
        for (int service = 0; service < number("count", 0); service++) {
            if (service != host && service != other) {
                change("setPort", service, port);
            }
        }
        change("pass", 1);
    }

    private void goBack() {
        for (int times = dice.from(1, 8); times > 0; times--) {
            change("undo");
        }
        if (dice.isOneIn(2)) {
            change("restore", dice.below(2));
        }
    }

    private void raisePorts() {
        int services = number("count", 2);
        boolean isUnlikely = dice.isOneIn(3);
        port = Math.min(999, port + 1);
        for (int service = 0; service < services; service++) {
            if (!isUnlikely || !dice.isOneIn(3)) {
                change("setPort", service, dice.isOneIn(60) ? dice.from(1, port) : port);
            }
        }
    }

    private void disturb() {
        int host = odd(number("count", 0));
        int type = odd(number("count", 1));
        int service = odd(number("count", 2));
        switch (dice.below(13)) {
            case 0: change("setOn", host, false, dice.isOneIn(2)); break;
            case 1: change("setOn", host, true, dice.isOneIn(2)); break;
            case 2: change("setSide", host, 1); break;
            case 3: change("setSide", host, 0); break;
            case 4: change("setSide", host, dice.below(2)); break;
            case 5: change("withdraw", service); break;
            case 6: change("browse", host, type, !dice.isOneIn(3)); break;
            case 7: change("setPort", service, dice.from(1, 999)); break;
            case 8: change("save", dice.below(2)); break;
            case 9: goBack(); break;
            case 10: setSides(host); break;
            case 11: setSides(NONE); break;
            default: add(host, type); break;
        }
    }

    /** One host stays with those that have sent nothing but replies: the others leave, or some of them. */
    private void setSides(int one) {
        for (int host = 0; host < number("count", 0); host++) {
            boolean isElsewhere = one == NONE ? dice.isOneIn(2) : host != one && !dice.isOneIn(3);
            change("setSide", host, isElsewhere ? 1 : 0);
        }
    }

    private void add(int host, int type) {
        put(dice.isOneIn(3) ? "y" : "x");
        change("add", host, type, port, dice.from(20, 200));
    }

    private String text() {
        int hosts = dice.isOneIn(2) ? 5 : dice.from(3, 6);
        StringBuilder text = new StringBuilder("hosts");
        for (int host = 0; host < hosts; host++) {
            text.append(' ').append((char) ('a' + host));
        }
        text.append(";types t u;");
        for (int host = 0; host < hosts; host++) {
            text.append(service(host, 'x'));
        }
        Set<Integer> owners = new HashSet<>();
        for (int more = dice.isOneIn(2) ? 0 : dice.from(1, 6); more > 0; more--) {
            int host = dice.below(hosts);
            if (owners.add(host)) {
                text.append(service(host, dice.isOneIn(3) ? 'z' : 'y'));
            }
        }
        for (int more = dice.isOneIn(2) ? 0 : dice.from(1, 3); more > 0; more--) {
            text.append("browse ").append((char) ('a' + more - 1)).append(" t;");
        }
        text.append("lose");
        int lost = Math.min(30, 5 * (hosts + owners.size()));
        if (lost < 30 && dice.isOneIn(4)) {
            // A mark that is ahead stands before those that are past.
            text.append(' ').append(dice.from(100, 600));
        }
        for (int message = 0; message < lost; message++) {
            text.append(' ').append(message);
        }
        return text.append(';').toString();
    }

    private String service(int host, char base) {
        int ttl = dice.isOneIn(3) ? dice.from(20, 30) : dice.from(20, 1000);
        return "service " + (char) ('a' + host) + " t " + base + ' ' + dice.from(1, 3) + ' ' + ttl + ';';
    }
}
