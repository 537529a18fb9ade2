/**
 * All that an object shows, and all that can be made of it: two equal texts mean that nothing has changed, be it in
 * the state, the buffer, the error, the output, the slots or the changes that can be undone. An object is promised
 * to answer 512 calls, so it is made again whenever it has been asked often enough.
 */
final class View {
    private static final int MOST_CALLS = 300;

    private final Stage.Maker maker;
    private final StringBuilder all = new StringBuilder();
    private LinkDirectory asked = null;
    private int calls = 0;

    private View(Stage.Maker maker) {
        this.maker = maker;
    }

    static String of(Stage.Maker maker) {
        View view = new View(maker);
        view.state();
        view.future();
        view.handling();
        return view.all.toString();
    }

    /** What the state and the output show. */
    private void state() {
        line("error");
        ask(LinkDirectory::errorCode);
        ask(LinkDirectory::errorPosition);
        line("output");
        for (int place = 0; place < 400 && answer(outputByte(place)) < Check.THROWS_INDEX; place++) {
            ask(outputByte(place));
        }
        line("knowledge");
        ask(LinkDirectory::stale);
        ask(LinkDirectory::clashes);
        ask(x -> Double.doubleToLongBits(x.coverage()));
        line("counts");
        for (int what = 0; what <= 11; what++) {
            int at = what;
            ask(x -> x.count(at));
        }
        for (int host = 0; host < many(x -> x.count(0)); host++) {
            host(host);
        }
        for (int service = 0; service < many(x -> x.count(2)); service++) {
            service(service);
        }
        line("messages");
        table(many(x -> x.count(6)), 7, LinkDirectory::message);
        line("log");
        table(many(x -> x.count(10)), 3, LinkDirectory::log);
        line("marked");
        for (int message = 0; message <= 999; message++) {
            int at = message;
            if (answer(x -> x.isMarked(at) ? 1 : 0) == 1) {
                all.append(' ').append(message);
            }
        }
    }

    private void host(int host) {
        line("host");
        for (int what = 0; what <= 5; what++) {
            int at = what;
            ask(x -> x.host(host, at));
        }
        line("  records");
        for (int place = 0; place < many(x -> x.host(host, 3)); place++) {
            int at = place;
            for (int what = 0; what <= 7; what++) {
                int of = what;
                ask(x -> x.record(host, at, of));
            }
            for (int letter = 0; letter < 6; letter++) {
                int of = letter;
                ask(x -> x.recordByte(host, at, of));
            }
        }
        line("  browsers");
        for (int type = 0; type < many(x -> x.count(1)); type++) {
            int at = type;
            ask(x -> x.records(host, at));
            for (int what = 0; what <= 3; what++) {
                int of = what;
                ask(x -> x.browser(host, at, of));
            }
        }
        line("  knows");
        for (int service = 0; service < many(x -> x.count(2)); service++) {
            int at = service;
            ask(x -> x.known(host, at));
        }
    }

    private void service(int service) {
        line("service");
        for (int what = 0; what <= 10; what++) {
            int at = what;
            ask(x -> x.service(service, at));
        }
        for (int place = 0; place < 6; place++) {
            int at = place;
            ask(x -> x.baseByte(service, at));
        }
        ask(x -> x.why(service, 0));
        ask(x -> x.why(service, 1));
    }

    /** What is foretold. */
    private void future() {
        line("future");
        ask(x -> x.messagesIn(100));
        ask(LinkDirectory::freshIn);
        for (int service = 0; service < many(x -> x.count(2)); service++) {
            int at = service;
            ask(x -> x.establishedIn(at));
            ask(x -> x.numberIn(at, 100));
            ask(x -> x.knownIn(0, at));
        }
    }

    /** What can be made of the buffer, the slots and the changes. */
    private void handling() {
        line("buffer");
        renew();
        ask(x -> x.append(0, 0, 0, 0, 0));
        renew();
        ask(LinkDirectory::load);
        ask(LinkDirectory::errorCode);
        ask(LinkDirectory::errorPosition);
        for (int slot = 0; slot < 2; slot++) {
            int at = slot;
            line("slot");
            renew();
            ask(x -> {
                x.restore(at);
                return 0;
            });
            shortState();
        }
        line("undo");
        renew();
        for (int change = 0; change < 10; change++) {
            ask(LinkDirectory::undo);
            shortState();
        }
    }

    private void shortState() {
        for (int what = 3; what <= 11; what++) {
            int at = what;
            ask(x -> x.count(at));
        }
        ask(LinkDirectory::write);
        ask(LinkDirectory::stale);
    }

    private interface Cell {
        int at(LinkDirectory x, int row, int column);
    }

    private void table(int rows, int last, Cell cell) {
        for (int row = 0; row < rows; row++) {
            for (int column = 0; column <= last; column++) {
                int at = row;
                int of = column;
                ask(x -> cell.at(x, at, of));
            }
        }
    }

    private static Stage.CallOn outputByte(int place) {
        return x -> x.outputByte(place);
    }

    private void line(String name) {
        all.append('\n').append(name);
    }

    private void ask(Stage.CallOn call) {
        all.append(' ').append(Check.named(answer(call)));
    }

    private long answer(Stage.CallOn call) {
        if (asked == null || calls == MOST_CALLS) {
            renew();
        }
        calls++;
        return Check.answerOf((Check.Call) () -> call.on(asked));
    }

    /** A number of things that are looked at; of very many, the first ones. */
    private int many(Stage.CallOn call) {
        long answer = answer(call);
        return answer < Check.THROWS_INDEX ? (int) Math.min(300, answer) : 0;
    }

    private void renew() {
        asked = maker.make();
        calls = 0;
    }
}
