import java.util.HashSet;
import java.util.Set;

/**
 * Storms: services with the same name answer each other's responses, and their ports are raised from tick to tick,
 * so that there are ever more messages. The runs are compared with Model, which holds every message.
 * The number of runs can be given as an argument, and the number that they begin with behind it.
 */
public final class StormTest extends ModelRun {
    private static final int MOST_MESSAGES = 12000, NONE = -1;

    private int port = 10;

    private StormTest(long seed) {
        super(seed);
    }

    public static void main(String[] args) {
        int runs = args.length > 0 ? Integer.parseInt(args[0]) : 100;
        int first = args.length > 1 ? Integer.parseInt(args[1]) : 0;
        for (int run = first; run < first + runs; run++) {
            new StormTest(run).run();
        }
        Check.end();
    }

    private void run() {
        put(text());
        change("load");
        change("save", 0);
        change("pass", 11);
        compareAll();
        if (dice.isOneIn(3)) {
            meetOutsider();
        }
        int steps = dice.from(10, 40);
        for (int step = 0; step < steps && !isWrong; step++) {
            if (number("count", 6) < MOST_MESSAGES) {
                raisePorts();
            } else {
                compareAll();
                goBack();
            }
            if (dice.isOneIn(4)) {
                disturb();
            }
            if (dice.isOneIn(4) && number("count", 4) < 1000) {
                // As long as a marked message is to be sent, the messages come one by one.
                change("mark", Math.min(999, number("count", 4) + dice.from(-1, 200)));
            }
            change("pass", dice.isOneIn(8) ? dice.from(1, 5) : 1);
            if (dice.isOneIn(3)) {
                compareAll();
            }
            if (dice.isOneIn(6)) {
                foretell();
            }
        }
        compareAll();
        end();
    }

    /**
     * A host that was on the other side meets a storm when those who sent the first messages have left: the first
     * message that changes something comes in the middle of many others.
     */
    private void meetOutsider() {
        int hosts = number("count", 0);
        int outsider = dice.below(hosts);
        int leader = outsider == hosts - 1 ? hosts - 2 : hosts - 1;
        change("setSide", outsider, 1);
        for (int turns = dice.from(2, 6); turns > 0; turns--) {
            raisePortsBut(outsider, dice.isOneIn(2) ? leader : NONE);
        }
        raisePortsBut(outsider, leader);
        port++;
        for (int host = 0; host < hosts; host++) {
            if (host != leader && host != outsider) {
                change("setPort", host, port);
                change("setSide", host, dice.isOneIn(8) ? 0 : 1);
            }
        }
        change("setSide", outsider, 0);
        change("pass", 1);
        compareAll();
    }

    private void raisePortsBut(int host, int other) {
        port++;
        for (int service = 0; service < number("count", 0); service++) {
            if (service != host && service != other) {
                change("setPort", service, port);
            }
        }
        change("pass", 1);
    }

    private void goBack() {
        for (int times = dice.from(1, 8); times > 0; times--) {
            change("undo");
        }
        if (dice.isOneIn(2)) {
            change("restore", dice.below(2));
        }
    }

    private void raisePorts() {
        int services = number("count", 2);
        boolean isUnlikely = dice.isOneIn(3);
        port = Math.min(999, port + 1);
        for (int service = 0; service < services; service++) {
            if (!isUnlikely || !dice.isOneIn(3)) {
                change("setPort", service, dice.isOneIn(60) ? dice.from(1, port) : port);
            }
        }
    }

    private void disturb() {
        int host = odd(number("count", 0));
        int type = odd(number("count", 1));
        int service = odd(number("count", 2));
        switch (dice.below(13)) {
            case 0: change("setOn", host, false, dice.isOneIn(2)); break;
            case 1: change("setOn", host, true, dice.isOneIn(2)); break;
            case 2: change("setSide", host, 1); break;
            case 3: change("setSide", host, 0); break;
            case 4: change("setSide", host, dice.below(2)); break;
            case 5: change("withdraw", service); break;
            case 6: change("browse", host, type, !dice.isOneIn(3)); break;
            case 7: change("setPort", service, dice.from(1, 999)); break;
            case 8: change("save", dice.below(2)); break;
            case 9: goBack(); break;
            case 10: setSides(host); break;
            case 11: setSides(NONE); break;
            default: add(host, type); break;
        }
    }

    /** One host stays with those that have sent nothing but replies: the others leave, or some of them. */
    private void setSides(int one) {
        for (int host = 0; host < number("count", 0); host++) {
            boolean isElsewhere = one == NONE ? dice.isOneIn(2) : host != one && !dice.isOneIn(3);
            change("setSide", host, isElsewhere ? 1 : 0);
        }
    }

    private void add(int host, int type) {
        put(dice.isOneIn(3) ? "y" : "x");
        change("add", host, type, port, dice.from(20, 200));
    }

    private String text() {
        int hosts = dice.isOneIn(2) ? 5 : dice.from(3, 6);
        StringBuilder text = new StringBuilder("hosts");
        for (int host = 0; host < hosts; host++) {
            text.append(' ').append((char) ('a' + host));
        }
        text.append(";types t u;");
        for (int host = 0; host < hosts; host++) {
            text.append(service(host, 'x'));
        }
        Set<Integer> owners = new HashSet<>();
        for (int more = dice.isOneIn(2) ? 0 : dice.from(1, 6); more > 0; more--) {
            int host = dice.below(hosts);
            if (owners.add(host)) {
                text.append(service(host, dice.isOneIn(3) ? 'z' : 'y'));
            }
        }
        for (int more = dice.isOneIn(2) ? 0 : dice.from(1, 3); more > 0; more--) {
            text.append("browse ").append((char) ('a' + more - 1)).append(" t;");
        }
        text.append("lose");
        for (int message = 0; message < Math.min(30, 5 * (hosts + owners.size())); message++) {
            text.append(' ').append(message);
        }
        return text.append(';').toString();
    }

    private String service(int host, char base) {
        int ttl = dice.isOneIn(3) ? dice.from(20, 30) : dice.from(20, 1000);
        return "service " + (char) ('a' + host) + " t " + base + ' ' + dice.from(1, 3) + ' ' + ttl + ';';
    }
}
