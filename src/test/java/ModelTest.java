/**
 * Makes the same calls, chosen by a fixed row of numbers, to the program and to Model, and compares all answers.
 * The number of runs can be given as an argument, and the number that the row begins with behind it.
 */
public final class ModelTest extends ModelRun {
    private static final String[] WORDS = {"a", "b", "c", "d", "e", "f", "x", "y", "t", "u", "lose", "browse", "types",
        "hosts", "abcdef", "zzzzzz"};

    private ModelTest(long seed) {
        super(seed);
    }

    public static void main(String[] args) {
        int runs = args.length > 0 ? Integer.parseInt(args[0]) : 300;
        int first = args.length > 1 ? Integer.parseInt(args[1]) : 0;
        for (int run = first; run < first + runs; run++) {
            new ModelTest(run).run();
        }
        Check.end();
    }

    private void run() {
        if (!dice.isOneIn(10)) {
            load(dice.isOneIn(6));
        }
        compareAll();
        int steps = dice.from(20, 120);
        boolean isCalm = dice.isOneIn(2);
        for (int step = 0; step < steps && !isWrong && hasRoom(); step++) {
            step(isCalm);
            if (dice.isOneIn(3)) {
                compareAll();
            }
            if (dice.isOneIn(3)) {
                foretell();
            }
        }
        compareAll();
        end();
    }

    private void step(boolean isCalm) {
        int hosts = number("count", 0);
        int types = number("count", 1);
        int services = number("count", 2);
        int host = odd(hosts);
        int type = odd(types);
        int service = odd(services);
        switch (dice.below(isCalm ? 24 : 17)) {
            case 0: add(host, type); break;
            case 1: change("withdraw", service); break;
            case 2: change("setPort", service, port()); break;
            case 3: change("setOn", host, dice.isOneIn(2), dice.isOneIn(2)); break;
            case 4: change("setOn", host, true, dice.isOneIn(2)); break;
            case 5: change("setSide", host, dice.isOneIn(10) ? dice.from(-1, 2) : dice.from(0, 1)); break;
            case 6: change("browse", host, type, !dice.isOneIn(3)); break;
            case 7: change("mark", mark()); break;
            case 8: change("undo"); break;
            case 9: undoSome(); break;
            case 10: saveOrRestore(); break;
            case 11: texts(); break;
            case 12: change("write"); break;
            case 13: change("pass", dice.isOneIn(10) ? dice.from(-1, 101) : dice.from(1, 40)); break;
            case 14: change("pass", 100); break;
            default: change("pass", dice.from(1, 4)); break;
        }
    }

    private void undoSome() {
        for (int times = dice.from(1, 4); times > 0; times--) {
            change("undo");
        }
    }

    private void saveOrRestore() {
        int slot = dice.isOneIn(8) ? dice.from(-1, 2) : dice.from(0, 1);
        change(dice.isOneIn(2) ? "save" : "restore", slot);
    }

    private int port() {
        return dice.isOneIn(15) ? dice.from(-1, 1) + (dice.isOneIn(2) ? 999 : 0) : dice.from(1, 9);
    }

    private int mark() {
        int sent = number("count", 4);
        return dice.isOneIn(8) ? dice.from(-2, 1002) : Math.min(999, sent + dice.from(-1, 8));
    }

    private void add(int host, int type) {
        if (!dice.isOneIn(20)) {
            put(dice.isOneIn(15) ? junk(dice.from(0, 9)) : word());
        }
        int ttl = dice.isOneIn(15) ? dice.from(19, 1001) : dice.isOneIn(3) ? dice.from(20, 60) : dice.from(20, 1000);
        change("add", host, type, port(), ttl);
    }

    private void texts() {
        switch (dice.below(6)) {
            case 0:
                if (dice.isOneIn(3)) {
                    load(dice.isOneIn(2));
                }
                break;
            case 1:
                change("append", bytes(), bytes(), bytes(), bytes(), bytes());
                break;
            case 2:
                change("truncate", dice.from(-1, 40));
                break;
            default:
                put(dice.isOneIn(9) ? junk(dice.from(0, 20)) : word());
                change("find", dice.isOneIn(9) ? dice.from(-1, 3) : dice.from(0, 2));
                break;
        }
    }

    private int bytes() {
        return dice.below(1 << 30) * 4 + dice.below(4);
    }

    private String word() {
        return dice.isOneIn(3) ? WORDS[dice.below(WORDS.length)] : WORDS[6 + dice.below(2)];
    }

    private String junk(int length) {
        StringBuilder junk = new StringBuilder();
        for (int place = 0; place < length; place++) {
            junk.append(dice.isOneIn(2) ? (char) dice.below(256) : "abcx;01 9\n".charAt(dice.below(10)));
        }
        return junk.toString();
    }

    // ---- texts

    private void load(boolean isSpoilt) {
        String text = text();
        if (isSpoilt) {
            text = spoilt(text);
        }
        put(text);
        change("load");
        call("errorCode");
        call("errorPosition");
    }

    private String text() {
        int hosts = dice.from(1, dice.isOneIn(2) ? 6 : 3);
        int types = dice.from(1, dice.isOneIn(2) ? 4 : 1);
        String[] hostNames = names(hosts);
        String[] typeNames = names(types);
        StringBuilder text = new StringBuilder();
        text.append(gap()).append("hosts");
        for (String name : hostNames) {
            text.append(' ').append(gap()).append(name);
        }
        text.append(gap()).append(';').append(gap()).append("types");
        for (String name : typeNames) {
            text.append(' ').append(name);
        }
        text.append(';');
        for (int services = dice.from(0, dice.isOneIn(3) ? 12 : 6); services > 0; services--) {
            text.append(gap()).append("service ").append(hostNames[dice.below(hosts)]).append(' ')
                .append(typeNames[dice.below(types)]).append(' ')
                .append(dice.isOneIn(4) ? "" + (char) ('a' + services) : word())
                .append(' ').append(gap()).append(dice.isOneIn(9) ? "0" : "").append(port()).append(' ')
                .append(dice.isOneIn(3) ? dice.from(20, 40) : dice.from(20, 1000)).append(gap()).append(';');
        }
        for (int browsers = dice.from(0, 4); browsers > 0; browsers--) {
            text.append("browse ").append(hostNames[dice.below(hosts)]).append(' ')
                .append(typeNames[dice.below(types)]).append(gap()).append(';');
        }
        for (int losses = dice.from(0, 2); losses > 0; losses--) {
            text.append("lose");
            for (int marks = dice.from(1, dice.isOneIn(4) ? 17 : 4); marks > 0; marks--) {
                text.append(' ').append(dice.isOneIn(9) ? dice.below(1010) : dice.below(60));
            }
            text.append(gap()).append(';');
        }
        return text.toString();
    }

    private String gap() {
        return dice.isOneIn(8) ? dice.isOneIn(2) ? "\n" : " \n " : "";
    }

    private String[] names(int most) {
        String[] names = new String[most];
        int first = dice.below(WORDS.length);
        for (int name = 0; name < most; name++) {
            names[name] = WORDS[(first + 3 * name) % WORDS.length];
        }
        return names;
    }

    private String spoilt(String text) {
        StringBuilder spoilt = new StringBuilder(text);
        for (int times = dice.from(1, 2); times > 0 && spoilt.length() > 0; times--) {
            int place = dice.below(spoilt.length());
            switch (dice.below(5)) {
                case 0: spoilt.deleteCharAt(place); break;
                case 1: spoilt.insert(place, junk(1)); break;
                case 2: spoilt.setLength(place); break;
                case 3: spoilt.insert(place, ' ' + word() + ' '); break;
                default: spoilt.insert(place, dice.below(20000)); break;
            }
        }
        return spoilt.toString();
    }
}
