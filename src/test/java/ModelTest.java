import java.lang.reflect.InvocationTargetException;
import java.lang.reflect.Method;
import java.util.HashMap;
import java.util.Map;

/**
 * Makes the same calls, chosen by a fixed row of numbers, to the program and to Model, and compares all answers.
 * The number of runs can be given as an argument, and the number that the row begins with behind it.
 */
public final class ModelTest {
    private static final String[] WORDS = {"a", "b", "c", "d", "e", "f", "x", "y", "t", "u", "lose", "browse", "types",
        "hosts", "abcdef", "zzzzzz"};

    private static final Map<String, Method> PROGRAM = methodsOf(LinkDirectory.class);
    private static final Map<String, Method> MODEL = methodsOf(Model.class);

    private final LinkDirectory program = new LinkDirectory();
    private final Model model = new Model();
    private final StringBuilder calls = new StringBuilder();
    private final Dice dice;
    private boolean isWrong = false;

    /** A row of numbers that is always the same for the same beginning. */
    static final class Dice {
        private long seed;

        Dice(long seed) {
            this.seed = seed * 7919 + 1;
        }

        int below(int bound) {
            seed = seed * 6364136223846793005L + 1442695040888963407L;
            return (int) ((seed >>> 33) % bound);
        }

        boolean isOneIn(int chances) {
            return below(chances) == 0;
        }

        int from(int least, int most) {
            return least + below(most - least + 1);
        }
    }

    private ModelTest(long seed) {
        dice = new Dice(seed);
    }

    public static void main(String[] args) {
        int runs = args.length > 0 ? Integer.parseInt(args[0]) : 300;
        int first = args.length > 1 ? Integer.parseInt(args[1]) : 0;
        for (int run = first; run < first + runs; run++) {
            new ModelTest(run).run();
        }
        Check.end();
    }

    private static Map<String, Method> methodsOf(Class<?> face) {
        Map<String, Method> found = new HashMap<>();
        for (Method method : face.getDeclaredMethods()) {
            if (java.lang.reflect.Modifier.isPublic(method.getModifiers())) {
                method.setAccessible(true);
                found.put(method.getName(), method);
            }
        }
        return found;
    }

    private static String answerOf(Method method, Object target, Object[] args) {
        try {
            return String.valueOf(method.invoke(target, args));
        } catch (InvocationTargetException e) {
            return "throws." + e.getCause().getClass().getName();
        } catch (IllegalAccessException e) {
            return "cannot be called";
        }
    }

    private String call(String name, Object... args) {
        String want = answerOf(MODEL.get(name), model, args);
        String got = answerOf(PROGRAM.get(name), program, args);
        if (!want.equals(got) && !isWrong) {
            isWrong = true;
            Check.tell(calls + "\n" + name + java.util.Arrays.toString(args) + " answered " + got + ", due is " + want);
        }
        return want;
    }

    private String change(String name, Object... args) {
        String answer = call(name, args);
        calls.append(name).append(java.util.Arrays.toString(args)).append(" = ").append(answer).append("; ");
        return answer;
    }

    private int number(String name, Object... args) {
        return Integer.parseInt(call(name, args));
    }

    private void run() {
        if (!dice.isOneIn(10)) {
            load(dice.isOneIn(6));
        }
        compareAll();
        int steps = dice.from(20, 120);
        boolean isCalm = dice.isOneIn(2);
        for (int step = 0; step < steps && !isWrong; step++) {
            step(isCalm);
            if (dice.isOneIn(3)) {
                compareAll();
            }
            if (dice.isOneIn(3)) {
                foretell();
            }
        }
        compareAll();
        Check.same("the run is right", 0, isWrong ? 1 : 0);
    }

    private void step(boolean isCalm) {
        int hosts = number("count", 0);
        int types = number("count", 1);
        int services = number("count", 2);
        int host = odd(hosts);
        int type = odd(types);
        int service = odd(services);
        switch (dice.below(isCalm ? 24 : 17)) {
            case 0: add(host, type); break;
            case 1: change("withdraw", service); break;
            case 2: change("setPort", service, port()); break;
            case 3: change("setOn", host, dice.isOneIn(2), dice.isOneIn(2)); break;
            case 4: change("setOn", host, true, dice.isOneIn(2)); break;
            case 5: change("setSide", host, dice.isOneIn(10) ? dice.from(-1, 2) : dice.from(0, 1)); break;
            case 6: change("browse", host, type, !dice.isOneIn(3)); break;
            case 7: change("mark", mark()); break;
            case 8: change("undo"); break;
            case 9: undoSome(); break;
            case 10: saveOrRestore(); break;
            case 11: texts(); break;
            case 12: change("write"); break;
            case 13: change("pass", dice.isOneIn(10) ? dice.from(-1, 101) : dice.from(1, 40)); break;
            case 14: change("pass", 100); break;
            default: change("pass", dice.from(1, 4)); break;
        }
    }

    private void undoSome() {
        for (int times = dice.from(1, 4); times > 0; times--) {
            change("undo");
        }
    }

    private void saveOrRestore() {
        int slot = dice.isOneIn(8) ? dice.from(-1, 2) : dice.from(0, 1);
        change(dice.isOneIn(2) ? "save" : "restore", slot);
    }

    /** A number below the bound, seldom one that is out of range. */
    private int odd(int bound) {
        return dice.isOneIn(25) ? dice.from(-2, bound + 1) : dice.below(Math.max(1, bound));
    }

    private int port() {
        return dice.isOneIn(15) ? dice.from(-1, 1) + (dice.isOneIn(2) ? 999 : 0) : dice.from(1, 9);
    }

    private int mark() {
        int sent = number("count", 4);
        return dice.isOneIn(8) ? dice.from(-2, 1002) : Math.min(999, sent + dice.from(-1, 8));
    }

    private void add(int host, int type) {
        if (!dice.isOneIn(20)) {
            put(dice.isOneIn(15) ? junk(dice.from(0, 9)) : word());
        }
        int ttl = dice.isOneIn(15) ? dice.from(19, 1001) : dice.isOneIn(3) ? dice.from(20, 60) : dice.from(20, 1000);
        change("add", host, type, port(), ttl);
    }

    private void texts() {
        switch (dice.below(6)) {
            case 0:
                if (dice.isOneIn(3)) {
                    load(dice.isOneIn(2));
                }
                break;
            case 1:
                change("append", bytes(), bytes(), bytes(), bytes(), bytes());
                break;
            case 2:
                change("truncate", dice.from(-1, 40));
                break;
            default:
                put(dice.isOneIn(9) ? junk(dice.from(0, 20)) : word());
                change("find", dice.isOneIn(9) ? dice.from(-1, 3) : dice.from(0, 2));
                break;
        }
    }

    private int bytes() {
        return dice.below(1 << 30) * 4 + dice.below(4);
    }

    private String word() {
        return dice.isOneIn(3) ? WORDS[dice.below(WORDS.length)] : WORDS[6 + dice.below(2)];
    }

    private String junk(int length) {
        StringBuilder junk = new StringBuilder();
        for (int place = 0; place < length; place++) {
            junk.append(dice.isOneIn(2) ? (char) dice.below(256) : "abcx;01 9\n".charAt(dice.below(10)));
        }
        return junk.toString();
    }

    private void put(String text) {
        call("truncate", 0);
        calls.append("text ").append(text).append("; ");
        for (int from = 0; from < text.length() && from < 800; from += 20) {
            int[] words = new int[5];
            for (int place = 0; place < 20; place++) {
                int letter = from + place < text.length() ? text.charAt(from + place) & 255 : 0;
                words[place / 4] = words[place / 4] << 8 | letter;
            }
            call("append", words[0], words[1], words[2], words[3], words[4]);
        }
        call("truncate", Math.min(800, text.length()));
    }

    // ---- texts

    private void load(boolean isSpoilt) {
        String text = text();
        if (isSpoilt) {
            text = spoilt(text);
        }
        put(text);
        change("load");
        call("errorCode");
        call("errorPosition");
    }

    private String text() {
        int hosts = dice.from(1, dice.isOneIn(2) ? 6 : 3);
        int types = dice.from(1, dice.isOneIn(2) ? 4 : 1);
        String[] hostNames = names(hosts);
        String[] typeNames = names(types);
        StringBuilder text = new StringBuilder();
        text.append(gap()).append("hosts");
        for (String name : hostNames) {
            text.append(' ').append(gap()).append(name);
        }
        text.append(gap()).append(';').append(gap()).append("types");
        for (String name : typeNames) {
            text.append(' ').append(name);
        }
        text.append(';');
        for (int services = dice.from(0, dice.isOneIn(3) ? 12 : 6); services > 0; services--) {
            text.append(gap()).append("service ").append(hostNames[dice.below(hosts)]).append(' ')
                .append(typeNames[dice.below(types)]).append(' ')
                .append(dice.isOneIn(4) ? "" + (char) ('a' + services) : word())
                .append(' ').append(gap()).append(dice.isOneIn(9) ? "0" : "").append(port()).append(' ')
                .append(dice.isOneIn(3) ? dice.from(20, 40) : dice.from(20, 1000)).append(gap()).append(';');
        }
        for (int browsers = dice.from(0, 4); browsers > 0; browsers--) {
            text.append("browse ").append(hostNames[dice.below(hosts)]).append(' ')
                .append(typeNames[dice.below(types)]).append(gap()).append(';');
        }
        for (int losses = dice.from(0, 2); losses > 0; losses--) {
            text.append("lose");
            for (int marks = dice.from(1, dice.isOneIn(4) ? 17 : 4); marks > 0; marks--) {
                text.append(' ').append(dice.isOneIn(9) ? dice.below(1010) : dice.below(60));
            }
            text.append(gap()).append(';');
        }
        return text.toString();
    }

    private String gap() {
        return dice.isOneIn(8) ? dice.isOneIn(2) ? "\n" : " \n " : "";
    }

    private String[] names(int most) {
        String[] names = new String[most];
        int first = dice.below(WORDS.length);
        for (int name = 0; name < most; name++) {
            names[name] = WORDS[(first + 3 * name) % WORDS.length];
        }
        return names;
    }

    private String spoilt(String text) {
        StringBuilder spoilt = new StringBuilder(text);
        for (int times = dice.from(1, 2); times > 0 && spoilt.length() > 0; times--) {
            int place = dice.below(spoilt.length());
            switch (dice.below(5)) {
                case 0: spoilt.deleteCharAt(place); break;
                case 1: spoilt.insert(place, junk(1)); break;
                case 2: spoilt.setLength(place); break;
                case 3: spoilt.insert(place, ' ' + word() + ' '); break;
                default: spoilt.insert(place, dice.below(20000)); break;
            }
        }
        return spoilt.toString();
    }

    // ---- what is compared

    private void compareAll() {
        for (int what = -1; what <= 12; what++) {
            call("count", what);
        }
        int hosts = number("count", 0);
        int types = number("count", 1);
        int services = number("count", 2);
        call("errorCode");
        call("errorPosition");
        call("stale");
        call("clashes");
        call("coverage");
        for (int host = -1; host <= hosts; host++) {
            compareHost(host, types, services);
        }
        for (int service = -1; service <= services; service++) {
            for (int what = -1; what <= 11; what++) {
                call("service", service, what);
            }
            for (int depth = -1; depth <= 2; depth++) {
                call("why", service, depth);
            }
            for (int place = -1; place <= 6; place++) {
                call("baseByte", service, place);
            }
            for (int other = -1; other <= services; other++) {
                call("haveSameName", service, other);
            }
        }
        int messages = number("count", 6);
        for (int place = -1; place <= messages; place++) {
            for (int what = -1; what <= 8; what++) {
                call("message", place, what);
            }
        }
        int events = number("count", 10);
        for (int event = -1; event <= events; event++) {
            for (int what = -1; what <= 4; what++) {
                call("log", event, what);
            }
        }
        for (int message = -1; message <= 1000; message += message > 120 ? 73 : 1) {
            call("isMarked", message);
        }
        for (int place = -1; place <= 270; place++) {
            call("outputByte", place);
        }
    }

    private void compareHost(int host, int types, int services) {
        for (int what = -1; what <= 6; what++) {
            call("host", host, what);
        }
        for (int type = -1; type <= types; type++) {
            call("records", host, type);
            for (int what = -1; what <= 4; what++) {
                call("browser", host, type, what);
            }
        }
        for (int service = -1; service <= services; service++) {
            call("known", host, service);
        }
        String records = call("host", host, 3);
        int places = records.startsWith("throws") ? 0 : Integer.parseInt(records);
        for (int place = -1; place <= places; place++) {
            for (int what = -1; what <= 8; what++) {
                call("record", host, place, what);
            }
            for (int letter = -1; letter <= 6; letter++) {
                call("recordByte", host, place, letter);
            }
        }
    }

    private void foretell() {
        int hosts = number("count", 0);
        int types = number("count", 1);
        int services = number("count", 2);
        call("establishedIn", odd(services));
        call("numberIn", odd(services), dice.from(-1, 101));
        call("knownIn", odd(hosts), odd(services));
        call("messagesIn", dice.from(-1, 101));
        call("freshIn");
        call("numberIf", odd(hosts), odd(types), odd(services), port());
    }
}
