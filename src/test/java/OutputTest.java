/** Promises 31 and 32: the output. */
public final class OutputTest {
    private static final long INDEX = Check.THROWS_INDEX;

    private OutputTest() {
    }

    public static void main(String[] args) {
        write();
        longOutput();
        outputByte();
        outputStays();
        writeAlone();
        Check.end();
    }

    private static void written(LinkDirectory x, String want) {
        Check.due("write() of " + want, want.length(), x::write);
        Check.same("the output", want, Check.outputOf(x));
    }

    private static void write() {
        LinkDirectory x = new LinkDirectory();
        written(x, "x.t p\nx.t p\n");
        x.pass(7);
        written(x, "x.t p\nx.t a\n");
        x.pass(12);
        written(x, "x-2.t e\nx.t e\n");
        x.withdraw(0);
        written(x, "x-2.t w\nx.t e\n");
        LinkDirectory y = Check.loaded("hosts a;types t;");
        written(y, "");
        Check.due("no byte", INDEX, () -> y.outputByte(0));
        LinkDirectory z = Check.loaded("hosts a b;types t abcdef u;service b abcdef zyxwvu 5 50;service a u b 5 50;");
        written(z, "zyxwvu.abcdef p\nb.u p\n");
    }

    private static void longOutput() {
        LinkDirectory x = Check.loaded("hosts a b;types u tuvwxy;service a tuvwxy abcdef 5 50;");
        x.pass(11);
        for (int service = 1; service < 12; service++) {
            Check.put(x, "abcdef");
            x.add(1, 1, 5, 50);
            x.pass(4);
        }
        x.pass(20);
        StringBuilder want = new StringBuilder("abcdef.tuvwxy e\n");
        for (int number = 2; number <= 12; number++) {
            want.append("abcdef-").append(number).append(".tuvwxy e\n");
        }
        written(x, want.toString());
        x.setOn(0, false, false);
        x.withdraw(1);
        written(x, want.toString().replace("abcdef-2.tuvwxy e", "abcdef-2.tuvwxy w"));
    }

    private static void outputByte() {
        LinkDirectory x = new LinkDirectory();
        Check.due("nothing written", INDEX, () -> x.outputByte(0));
        x.write();
        String want = "x.t p\nx.t p\n";
        for (int place = 0; place < want.length(); place++) {
            int at = place;
            Check.due("outputByte(" + place + ")", want.charAt(place), () -> x.outputByte(at));
        }
        for (int wrong : new int[] {-1, 12, 13, 400, Integer.MIN_VALUE, Integer.MAX_VALUE}) {
            Check.due("outputByte(" + wrong + ")", INDEX, () -> x.outputByte(wrong));
        }
    }

    private static void outputStays() {
        LinkDirectory x = new LinkDirectory();
        x.save(0);
        x.pass(7);
        x.write();
        String want = "x.t p\nx.t a\n";
        x.pass(12);
        Check.same("behind a change", want, Check.outputOf(x));
        x.undo();
        x.undo();
        Check.same("behind undo()", want, Check.outputOf(x));
        x.restore(0);
        Check.same("behind restore()", want, Check.outputOf(x));
        Check.load(x, "hosts b;");
        Check.same("behind a load() that throws", want, Check.outputOf(x));
        Check.load(x, "hosts b;types b;");
        Check.same("behind load()", want, Check.outputOf(x));
        written(x, "");
    }

    private static void writeAlone() {
        Stage stage = new Stage("lively", Scenes::lively).behind("write()", LinkDirectory::write);
        stage.unchangedBy("write() again", LinkDirectory::write);
    }
}
