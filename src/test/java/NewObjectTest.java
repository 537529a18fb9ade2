/** Promise 1: a new object. */
public final class NewObjectTest {
    private NewObjectTest() {
    }

    public static void main(String[] args) {
        LinkDirectory x = new LinkDirectory();
        int[] counts = {2, 1, 2, 0, 0, 0, 0, 1, 0, 0, 0, 0};
        for (int what = 0; what < counts.length; what++) {
            int at = what;
            Check.due("count(" + what + ")", counts[what], () -> x.count(at));
        }
        Check.due("service(0, 3)", 80, () -> x.service(0, 3));
        Check.due("service(1, 3)", 90, () -> x.service(1, 3));
        Check.due("service(1, 0)", 1, () -> x.service(1, 0));
        Check.due("browser(0, 0, 0)", 0, () -> x.browser(0, 0, 0));
        Check.due("browser(1, 0, 0)", LinkDirectory.NONE, () -> x.browser(1, 0, 0));
        Check.due("errorCode()", 0, x::errorCode);
        Check.due("errorPosition()", LinkDirectory.NONE, x::errorPosition);
        Check.due("no output: outputByte(0)", Check.THROWS_INDEX, () -> x.outputByte(0));
        Check.due("an empty buffer: truncate(1)", Check.THROWS_INDEX, () -> x.truncate(1));
        Check.due("an empty buffer: append", 20, () -> x.append(0, 0, 0, 0, 0));
        Check.due("no undo", Check.THROWS_STATE, x::undo);
        Check.dueDeed("nothing in slot 0", Check.THROWS_ELEMENT, () -> x.restore(0));
        Check.dueDeed("nothing in slot 1", Check.THROWS_ELEMENT, () -> x.restore(1));
        names();
        asTheText();
        Check.end();
    }

    private static void names() {
        LinkDirectory x = new LinkDirectory();
        Check.put(x, "a");
        Check.due("host a", 0, () -> x.find(0));
        Check.put(x, "b");
        Check.due("host b", 1, () -> x.find(0));
        Check.put(x, "t");
        Check.due("type t", 0, () -> x.find(1));
        Check.put(x, "x");
        Check.due("service x", 0, () -> x.find(2));
        Check.due("the letter of service 1", 'x', () -> x.baseByte(1, 0));
    }

    /** The state is that for the text: also behind 30 ticks it is the same as with the text loaded. */
    private static void asTheText() {
        String text = "hosts a b;types t;service a t x 80 100;service b t x 90 100;browse a t;";
        Check.same("the state for the text", View.of(() -> Check.loaded(text)), View.of(LinkDirectory::new));
        Check.same("the state for the text, 30 ticks later", View.of(() -> Stage.passed(Check.loaded(text), 30)),
            View.of(() -> Stage.passed(new LinkDirectory(), 30)));
    }
}
