import java.util.ArrayList;
import java.util.List;

/**
 * An object is promised to answer 512 calls. This one can be asked more often: the calls that may change it are
 * written down, and behind 512 calls a new object is brought into the same state by them.
 */
final class Lasting {
    private static final int MOST_CALLS = 512;

    // The calls that must change nothing: if one did, the next answers of a new object would tell.
    private static final Stage.CallOn[] LOOKS = {
        LinkDirectory::errorCode, LinkDirectory::errorPosition, x -> x.count(0), x -> x.host(0, 0),
        x -> x.service(0, 0), x -> x.baseByte(0, 0), x -> x.haveSameName(0, 0) ? 1 : 0, x -> x.record(0, 0, 0),
        x -> x.recordByte(0, 0, 0), x -> x.browser(0, 0, 0), x -> x.message(0, 0), x -> x.isMarked(0) ? 1 : 0,
        x -> x.log(0, 0), x -> x.known(0, 0), x -> x.records(0, 0), LinkDirectory::stale, LinkDirectory::clashes,
        x -> (long) x.coverage(), x -> x.why(0, 0), x -> x.establishedIn(0), x -> x.numberIn(0, 2),
        x -> x.knownIn(0, 0), x -> x.messagesIn(2), LinkDirectory::freshIn, x -> x.numberIf(0, 0, 0, 5),
        x -> x.outputByte(0),
    };

    private final List<Stage.CallOn> changes = new ArrayList<>();
    private LinkDirectory object = new LinkDirectory();
    private int calls = 0;

    /** An object with a text that must have no error. */
    static Lasting loaded(String text) {
        Lasting x = new Lasting();
        Check.mustBeLoaded(text, Check.load(x, text));
        return x;
    }

    /** How many of the 512 calls are needed to come to this state. */
    int changesMade() {
        return changes.size();
    }

    private LinkDirectory asked() {
        if (calls == MOST_CALLS) {
            renew();
        }
        calls++;
        return object;
    }

    private int changed(Stage.CallOn change) {
        LinkDirectory x = asked();
        changes.add(change);
        return (int) change.on(x);
    }

    private void renew() {
        if (changes.size() + LOOKS.length >= MOST_CALLS) {
            throw new AssertionError("a test makes too many calls that may change an object");
        }
        object = new LinkDirectory();
        calls = changes.size() + LOOKS.length;
        for (Stage.CallOn change : changes) {
            Check.answerOf((Check.Call) () -> change.on(object));
        }
        for (Stage.CallOn look : LOOKS) {
            Check.answerOf((Check.Call) () -> look.on(object));
        }
    }

    // ---- the calls of the document

    public int append(int a, int b, int c, int d, int e) {
        return changed(x -> x.append(a, b, c, d, e));
    }

    public int truncate(int length) {
        return changed(x -> x.truncate(length));
    }

    public int load() {
        return changed(x -> x.load());
    }

    public int errorCode() {
        return asked().errorCode();
    }

    public int errorPosition() {
        return asked().errorPosition();
    }

    public int find(int sort) {
        return changed(x -> x.find(sort));
    }

    public int count(int what) {
        return asked().count(what);
    }

    public int host(int host, int what) {
        return asked().host(host, what);
    }

    public int service(int service, int what) {
        return asked().service(service, what);
    }

    public int baseByte(int service, int place) {
        return asked().baseByte(service, place);
    }

    public boolean haveSameName(int service, int other) {
        return asked().haveSameName(service, other);
    }

    public int record(int host, int place, int what) {
        return asked().record(host, place, what);
    }

    public int recordByte(int host, int place, int letter) {
        return asked().recordByte(host, place, letter);
    }

    public int browser(int host, int type, int what) {
        return asked().browser(host, type, what);
    }

    public int message(int place, int what) {
        return asked().message(place, what);
    }

    public boolean isMarked(int message) {
        return asked().isMarked(message);
    }

    public int log(int event, int what) {
        return asked().log(event, what);
    }

    public int known(int host, int service) {
        return asked().known(host, service);
    }

    public int records(int host, int type) {
        return asked().records(host, type);
    }

    public int stale() {
        return asked().stale();
    }

    public int clashes() {
        return asked().clashes();
    }

    public double coverage() {
        return asked().coverage();
    }

    public int why(int service, int depth) {
        return asked().why(service, depth);
    }

    public int establishedIn(int service) {
        return asked().establishedIn(service);
    }

    public int numberIn(int service, int ticks) {
        return asked().numberIn(service, ticks);
    }

    public int knownIn(int host, int service) {
        return asked().knownIn(host, service);
    }

    public int messagesIn(int ticks) {
        return asked().messagesIn(ticks);
    }

    public int freshIn() {
        return asked().freshIn();
    }

    public int numberIf(int host, int type, int like, int port) {
        return asked().numberIf(host, type, like, port);
    }

    public int write() {
        return changed(x -> x.write());
    }

    public int outputByte(int place) {
        return asked().outputByte(place);
    }

    public int pass(int ticks) {
        return changed(x -> x.pass(ticks));
    }

    public int add(int host, int type, int port, int ttl) {
        return changed(x -> x.add(host, type, port, ttl));
    }

    public int withdraw(int service) {
        return changed(x -> x.withdraw(service));
    }

    public int setPort(int service, int port) {
        return changed(x -> x.setPort(service, port));
    }

    public int setOn(int host, boolean isOn, boolean isPolite) {
        return changed(x -> x.setOn(host, isOn, isPolite));
    }

    public int setSide(int host, int side) {
        return changed(x -> x.setSide(host, side));
    }

    public int browse(int host, int type, boolean isBrowsing) {
        return changed(x -> x.browse(host, type, isBrowsing));
    }

    public int mark(int message) {
        return changed(x -> x.mark(message));
    }

    public int undo() {
        return changed(x -> x.undo());
    }

    public void save(int slot) {
        changed(x -> {
            x.save(slot);
            return 0;
        });
    }

    public void restore(int slot) {
        changed(x -> {
            x.restore(slot);
            return 0;
        });
    }
}
