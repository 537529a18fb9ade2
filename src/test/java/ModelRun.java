import java.lang.reflect.InvocationTargetException;
import java.lang.reflect.Method;
import java.util.Arrays;
import java.util.HashMap;
import java.util.Map;

/** A row of calls that are made to the program and to Model; all answers are compared. */
class ModelRun {
    // So that enough of the 512 calls of an object are left to compare what it shows.
    private static final int MOST_CHANGES = 360;

    private static final Map<String, Method> PROGRAM = methodsOf(Lasting.class);
    private static final Map<String, Method> MODEL = methodsOf(Model.class);

    private final Lasting program = new Lasting();
    private final Model model = new Model();
    final StringBuilder calls = new StringBuilder();
    final Dice dice;
    boolean isWrong = false;

    /** A row of numbers that is always the same for the same beginning. */
    static final class Dice {
        private long seed;

        Dice(long seed) {
            this.seed = seed * 7919 + 1;
        }

        int below(int bound) {
            seed = seed * 6364136223846793005L + 1442695040888963407L;
            return (int) ((seed >>> 33) % bound);
        }

        boolean isOneIn(int chances) {
            return below(chances) == 0;
        }

        int from(int least, int most) {
            return least + below(most - least + 1);
        }
    }

    ModelRun(long seed) {
        dice = new Dice(seed);
    }

    private static Map<String, Method> methodsOf(Class<?> face) {
        Map<String, Method> found = new HashMap<>();
        for (Method method : face.getDeclaredMethods()) {
            if (java.lang.reflect.Modifier.isPublic(method.getModifiers())) {
                method.setAccessible(true);
                found.put(method.getName(), method);
            }
        }
        return found;
    }

    private static String answerOf(Method method, Object target, Object[] args) {
        try {
            return String.valueOf(method.invoke(target, args));
        } catch (InvocationTargetException e) {
            return "throws." + e.getCause().getClass().getName();
        } catch (IllegalAccessException e) {
            return "cannot be called";
        }
    }

    final String call(String name, Object... args) {
        String want = answerOf(MODEL.get(name), model, args);
        String got = answerOf(PROGRAM.get(name), program, args);
        if (!want.equals(got) && !isWrong) {
            isWrong = true;
            Check.tell(calls + "\n" + name + Arrays.toString(args) + " answered " + got + ", due is " + want);
        }
        return want;
    }

    final String change(String name, Object... args) {
        String answer = call(name, args);
        calls.append(name).append(Arrays.toString(args)).append(" = ").append(answer).append("; ");
        return answer;
    }

    final int number(String name, Object... args) {
        return Integer.parseInt(call(name, args));
    }

    /** Whether some more changes can be made. */
    final boolean hasRoom() {
        return program.changesMade() < MOST_CHANGES;
    }

    final void end() {
        Check.same("the run is right", 0, isWrong ? 1 : 0);
    }

    /** A number below the bound, seldom one that is out of range. */
    final int odd(int bound) {
        return dice.isOneIn(25) ? dice.from(-2, bound + 1) : dice.below(Math.max(1, bound));
    }

    final void put(String text) {
        call("truncate", 0);
        calls.append("text ").append(text).append("; ");
        for (int from = 0; from < text.length() && from < 800; from += 20) {
            int[] words = new int[5];
            for (int place = 0; place < 20; place++) {
                int letter = from + place < text.length() ? text.charAt(from + place) & 255 : 0;
                words[place / 4] = words[place / 4] << 8 | letter;
            }
            call("append", words[0], words[1], words[2], words[3], words[4]);
        }
        call("truncate", Math.min(800, text.length()));
    }

    // ---- what is compared

    final void compareAll() {
        for (int what = -1; what <= 12; what++) {
            call("count", what);
        }
        int hosts = number("count", 0);
        int types = number("count", 1);
        int services = number("count", 2);
        call("errorCode");
        call("errorPosition");
        call("stale");
        call("clashes");
        call("coverage");
        for (int host = -1; host <= hosts; host++) {
            compareHost(host, types, services);
        }
        for (int service = -1; service <= services; service++) {
            for (int what = -1; what <= 11; what++) {
                call("service", service, what);
            }
            for (int depth = -1; depth <= 2; depth++) {
                call("why", service, depth);
            }
            for (int place = -1; place <= 6; place++) {
                call("baseByte", service, place);
            }
            for (int other = -1; other <= services; other++) {
                call("haveSameName", service, other);
            }
        }
        int messages = number("count", 6);
        // Of very many messages, some are compared: the first and the last ones, and every so many between.
        int stride = messages / 300 + 1;
        for (int place = -1; place <= messages; place += place > 40 && place < messages - 40 ? stride : 1) {
            for (int what = -1; what <= 8; what++) {
                call("message", place, what);
            }
        }
        int events = number("count", 10);
        for (int event = -1; event <= events; event++) {
            for (int what = -1; what <= 4; what++) {
                call("log", event, what);
            }
        }
        for (int message = -1; message <= 1000; message += message > 120 ? 73 : 1) {
            call("isMarked", message);
        }
        for (int place = -1; place <= 270; place++) {
            call("outputByte", place);
        }
    }

    final void compareHost(int host, int types, int services) {
        for (int what = -1; what <= 6; what++) {
            call("host", host, what);
        }
        for (int type = -1; type <= types; type++) {
            call("records", host, type);
            for (int what = -1; what <= 4; what++) {
                call("browser", host, type, what);
            }
        }
        for (int service = -1; service <= services; service++) {
            call("known", host, service);
        }
        String records = call("host", host, 3);
        int places = records.startsWith("throws") ? 0 : Integer.parseInt(records);
        for (int place = -1; place <= places; place++) {
            for (int what = -1; what <= 8; what++) {
                call("record", host, place, what);
            }
            for (int letter = -1; letter <= 6; letter++) {
                call("recordByte", host, place, letter);
            }
        }
    }

    final void foretell() {
        int hosts = number("count", 0);
        int types = number("count", 1);
        int services = number("count", 2);
        call("establishedIn", odd(services));
        call("numberIn", odd(services), dice.from(-1, 101));
        call("knownIn", odd(hosts), odd(services));
        call("messagesIn", dice.from(-1, 101));
        call("freshIn");
        call("numberIf", odd(hosts), odd(types), odd(services), dice.from(0, 10));
    }
}
