import java.util.List;

/** The text of the document, read a second time, for Model. */
final class ModelText {
    int code = 0;
    int position = -1;

    private final String text;
    private final Model.State state = new Model.State();
    private int begin = 0;
    private String token = "";
    private int behind = 0;

    /** Ends the reading at the first error. */
    private static final class Wrong extends RuntimeException {
        private static final long serialVersionUID = 1;
    }

    ModelText(String text) {
        this.text = text;
    }

    /** The state for the text; null if it has an error, which code and position tell. */
    Model.State read() {
        try {
            next();
            word("hosts");
            do {
                String name = name();
                for (Model.Host host : state.hosts) {
                    check(!host.name.equals(name), 3);
                }
                check(state.hosts.size() < 6, 5);
                Model.Host host = new Model.Host();
                host.name = name;
                state.hosts.add(host);
                next();
            } while (!token.equals(";"));
            next();
            word("types");
            do {
                check(!state.types.contains(name()), 3);
                check(state.types.size() < 4, 5);
                state.types.add(token);
                next();
            } while (!token.equals(";"));
            next();
            while (token.equals("service")) {
                service();
            }
            while (token.equals("browse")) {
                browser();
            }
            while (token.equals("lose")) {
                loss();
            }
            check(token.isEmpty(), 1);
            return state;
        } catch (Wrong e) {
            return null;
        }
    }

    private void service() {
        check(state.services.size() < 12, 5);
        next();
        int host = host();
        next();
        int type = type();
        next();
        String base = name();
        check(!state.hasName(host, new Model.Name(base, 0, type)), 3);
        next();
        int port = number(1, 999);
        next();
        int ttl = number(20, 1000);
        next();
        state.add(host, type, base, port, ttl);
        word(";");
    }

    private void browser() {
        next();
        int host = host();
        next();
        int type = type();
        check(!state.hosts.get(host).browsers.containsKey(type), 3);
        state.hosts.get(host).browsers.put(type, new Model.Browser());
        next();
        word(";");
    }

    private void loss() {
        next();
        do {
            int message = number(0, 999);
            check(!state.marks.contains(message), 3);
            check(state.marks.size() < 30, 5);
            state.marks.add(message);
            next();
        } while (!token.equals(";"));
        next();
    }

    private int host() {
        String name = name();
        for (int host = 0; host < state.hosts.size(); host++) {
            if (state.hosts.get(host).name.equals(name)) {
                return host;
            }
        }
        check(false, 4);
        return -1;
    }

    private int type() {
        check(state.types.contains(name()), 4);
        return state.types.indexOf(token);
    }

    private String name() {
        check(token.matches("[a-z]{1,6}"), 1);
        return token;
    }

    private int number(int least, int most) {
        check(token.matches("[0-9]{1,4}"), 1);
        int number = Integer.parseInt(token);
        check(number >= least && number <= most, 2);
        return number;
    }

    private void word(String wanted) {
        check(token.equals(wanted), 1);
        next();
    }

    private void check(boolean isRight, int error) {
        if (!isRight) {
            code = error;
            position = begin;
            throw new Wrong();
        }
    }

    private void next() {
        begin = behind;
        while (begin < text.length() && List.of(' ', '\n').contains(text.charAt(begin))) {
            begin++;
        }
        behind = begin;
        String rest = text.substring(begin);
        for (String kind : new String[] {"[a-z]+", "[0-9]+", "(?s)."}) {
            java.util.regex.Matcher matcher = java.util.regex.Pattern.compile(kind).matcher(rest);
            if (matcher.lookingAt()) {
                token = matcher.group();
                behind = begin + token.length();
                return;
            }
        }
        token = "";
    }
}
