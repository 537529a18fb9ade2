/**
 * A state that is made anew for each call, so that no call is in the way of another one, and that tests bounds:
 * which arguments are allowed, and that what is refused changes nothing.
 */
final class Stage {
    /** Makes an object, always in the same state, with some 150 calls at most. */
    interface Maker {
        LinkDirectory make();
    }

    /** A call that is made to an object. */
    interface CallOn {
        long on(LinkDirectory x);
    }

    /** A call with an argument. */
    interface CallOf {
        long on(LinkDirectory x, int argument);
    }

    /** A call with two arguments. */
    interface CallOfTwo {
        long on(LinkDirectory x, int first, int second);
    }

    static final int LEAST = Integer.MIN_VALUE, GREATEST = Integer.MAX_VALUE;

    private final String name;
    private final Maker maker;
    private String view = null;
    private String emptiedView = null;

    Stage(String name, Maker maker) {
        this.name = name;
        this.maker = maker;
    }

    /** A text that was loaded, and ticks that have passed since then. */
    static Stage of(String text, int ticks) {
        return new Stage(text + " behind " + ticks, () -> passed(Check.loaded(text), ticks));
    }

    static LinkDirectory passed(LinkDirectory x, int ticks) {
        for (int left = ticks; left > 0; left -= 100) {
            x.pass(Math.min(100, left));
        }
        return x;
    }

    /** This state behind some more calls. */
    Stage behind(String deed, CallOn call) {
        return new Stage(name + ", " + deed, () -> {
            LinkDirectory x = maker.make();
            call.on(x);
            return x;
        });
    }

    LinkDirectory make() {
        return maker.make();
    }

    // ---- calls that are allowed

    void due(String what, long want, CallOn call) {
        LinkDirectory x = maker.make();
        Check.due(name + ": " + what, want, () -> call.on(x));
    }

    /** The call must answer, and change nothing. */
    void shown(String what, long want, CallOn call) {
        due(what, want, call);
        unchangedBy(what, call);
    }

    /** A call, or some 150 of them, must change nothing at all. */
    void unchangedBy(String what, CallOn calls) {
        Check.same(name + ": " + what + " must change nothing", view(), viewBehind(calls));
    }

    // ---- calls that are refused

    /** The call must throw, and change nothing at all. */
    void refused(String what, long want, CallOn call) {
        due(what, want, call);
        unchangedBy(what, call);
    }

    /** The call must throw, and change nothing but the buffer, which is empty then. */
    void refusedAndEmptied(String what, long want, CallOn call) {
        due(what, want, call);
        if (emptiedView == null) {
            emptiedView = viewBehind(x -> x.truncate(0));
        }
        Check.same(name + ": " + what + " must empty the buffer alone", emptiedView, viewBehind(call));
    }

    /**
     * An argument is allowed from least to most, which have these answers; what is outside is refused with the error.
     * Nothing is allowed if least is greater than most.
     */
    void range(String what, long error, int least, long atLeast, int most, long atMost, CallOf call) {
        if (least <= most) {
            due(what + " of " + least, atLeast, x -> call.on(x, least));
            due(what + " of " + most, atMost, x -> call.on(x, most));
        }
        for (int wrong : outside(least, most)) {
            refused(what + " of " + wrong, error, x -> call.on(x, wrong));
        }
    }

    /** Two arguments that are both out of range: the error of the one whose exception is named first. */
    void both(String what, long error, int[] firsts, int[] seconds, CallOfTwo call) {
        for (int first : firsts) {
            for (int second : seconds) {
                refused(what + " of " + first + " and " + second, error, x -> call.on(x, first, second));
            }
        }
    }

    static int[] outside(int least, int most) {
        return new int[] {LEAST, least - 1, most + 1, GREATEST};
    }

    private String view() {
        if (view == null) {
            view = View.of(maker);
        }
        return view;
    }

    String viewBehind(CallOn call) {
        return View.of(() -> {
            LinkDirectory x = maker.make();
            Check.answerOf((Check.Call) () -> call.on(x));
            return x;
        });
    }
}
