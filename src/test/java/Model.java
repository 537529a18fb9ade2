import java.util.ArrayList;
import java.util.HashSet;
import java.util.List;
import java.util.NoSuchElementException;
import java.util.Set;
import java.util.TreeMap;

/**
 * The document a second time, with lists and objects and without a thought of thrift: what ModelTest compares
 * the program with. It shares no code with the program.
 */
final class Model {
    record Name(String base, int number, int type) {
    }

    record Data(int port, int host) {
        boolean isGreaterThan(Data other) {
            return port > other.port || port == other.port && host > other.host;
        }
    }

    record Answer(Name name, Data data) {
    }

    record Message(int number, int kind, int from, int time, int type, Name name, Data data, int ttl,
                   List<Answer> answers) {
    }

    record Event(int kind, int time, int whose, int number) {
    }

    static final class Service {
        int host;
        int type;
        String base;
        int number = 0;
        int port;
        int ttl;
        int state = 0;
        int probes = 0;
        int alarm = -1;
        int renamed = 0;
        int lost = 0;
        int conflicts = 0;

        Name name() {
            return new Name(base, number, type);
        }

        Data data() {
            return new Data(port, host);
        }

        boolean isAnnounced() {
            return state == 1 || state == 2;
        }

        void beginToProbe(int time) {
            state = 0;
            probes = 0;
            alarm = time;
        }

        Service copy() {
            Service c = new Service();
            c.host = host;
            c.type = type;
            c.base = base;
            c.number = number;
            c.port = port;
            c.ttl = ttl;
            c.state = state;
            c.probes = probes;
            c.alarm = alarm;
            c.renamed = renamed;
            c.lost = lost;
            c.conflicts = conflicts;
            return c;
        }
    }

    static final class Kept {
        Name name;
        Data data;
        int ttl;
        int born;
        int age;

        int end() {
            return born + ttl;
        }

        boolean needsRefresh(int type, int time) {
            return name.type() == type && age < 4 && time >= born + ttl * (80 + 5 * age) / 100;
        }

        Kept copy() {
            Kept c = new Kept();
            c.name = name;
            c.data = data;
            c.ttl = ttl;
            c.born = born;
            c.age = age;
            return c;
        }
    }

    static final class Browser {
        int time;
        int interval = 2;
        int queries = 0;
        int refreshes = 0;

        Browser copy() {
            Browser c = new Browser();
            c.time = time;
            c.interval = interval;
            c.queries = queries;
            c.refreshes = refreshes;
            return c;
        }
    }

    static final class Host {
        String name;
        boolean isOn = true;
        int side = 0;
        int sent = 0;
        List<Kept> cache = new ArrayList<>();
        TreeMap<Integer, Browser> browsers = new TreeMap<>();

        Host copy() {
            Host c = new Host();
            c.name = name;
            c.isOn = isOn;
            c.side = side;
            c.sent = sent;
            for (Kept kept : cache) {
                c.cache.add(kept.copy());
            }
            browsers.forEach((type, browser) -> c.browsers.put(type, browser.copy()));
            return c;
        }
    }

    static final class State {
        List<Host> hosts = new ArrayList<>();
        List<String> types = new ArrayList<>();
        List<Service> services = new ArrayList<>();
        List<Message> underWay = new ArrayList<>();
        Set<Integer> marks = new HashSet<>();
        List<Event> log = new ArrayList<>();
        int time = 0;
        int sent = 0;
        int lost = 0;
        int renamings = 0;
        int conflicts = 0;

        State copy() {
            State c = new State();
            for (Host host : hosts) {
                c.hosts.add(host.copy());
            }
            c.types.addAll(types);
            for (Service service : services) {
                c.services.add(service.copy());
            }
            c.underWay.addAll(underWay);
            c.marks.addAll(marks);
            c.log.addAll(log);
            c.time = time;
            c.sent = sent;
            c.lost = lost;
            c.renamings = renamings;
            c.conflicts = conflicts;
            return c;
        }

        // ---- sending

        void note(int kind, int whose, int number) {
            log.add(0, new Event(kind, time, whose, number));
            while (log.size() > 20) {
                log.remove(20);
            }
        }

        void send(int kind, int from, int type, Name name, Data data, int ttl, List<Answer> answers) {
            int number = sent++;
            hosts.get(from).sent++;
            if (marks.contains(number)) {
                lost++;
                note(6, number, kind);
            } else {
                underWay.add(new Message(number, kind, from, time, type, name, data, ttl, answers));
            }
        }

        void probe(Service s) {
            send(0, s.host, s.type, s.name(), s.data(), -1, null);
        }

        void respond(Service s) {
            send(1, s.host, s.type, s.name(), s.data(), s.ttl, null);
        }

        void sayGoodbye(Service s) {
            send(1, s.host, s.type, s.name(), s.data(), 0, null);
        }

        void rename(Service s) {
            boolean isTaken = true;
            while (isTaken) {
                s.number = s.number == 0 ? 2 : s.number + 1;
                isTaken = false;
                for (Service other : services) {
                    if (other != s && other.host == s.host && other.state != 3 && other.name().equals(s.name())) {
                        isTaken = true;
                    }
                }
            }
            s.renamed++;
            renamings++;
            note(0, services.indexOf(s), s.number);
        }

        // ---- a tick

        void tick() {
            List<Message> coming = new ArrayList<>();
            List<Message> staying = new ArrayList<>();
            for (Message message : underWay) {
                (message.time() == time - 1 ? coming : staying).add(message);
            }
            underWay = staying;
            for (Message message : coming) {
                for (int host = 0; host < hosts.size(); host++) {
                    Host to = hosts.get(host);
                    if (host != message.from() && to.isOn && to.side == hosts.get(message.from()).side) {
                        come(message, host);
                    }
                }
            }
            for (int host = 0; host < hosts.size(); host++) {
                List<Kept> alive = new ArrayList<>();
                for (Kept kept : hosts.get(host).cache) {
                    if (kept.end() <= time) {
                        note(4, host, kept.name.number());
                    } else {
                        alive.add(kept);
                    }
                }
                hosts.get(host).cache = alive;
            }
            for (Service s : services) {
                if (hosts.get(s.host).isOn && s.alarm != -1 && s.alarm <= time) {
                    act(s);
                }
            }
            for (int host = 0; host < hosts.size(); host++) {
                if (hosts.get(host).isOn) {
                    for (int type : hosts.get(host).browsers.keySet()) {
                        browse(host, type, hosts.get(host).browsers.get(type));
                    }
                }
            }
            time++;
        }

        void act(Service s) {
            if (s.state == 0) {
                if (s.probes < 3) {
                    probe(s);
                    s.probes++;
                    s.alarm = time + 2;
                } else {
                    respond(s);
                    s.state = 1;
                    s.alarm = time + 4;
                }
            } else if (s.state == 1) {
                respond(s);
                s.state = 2;
                s.alarm = -1;
                note(3, services.indexOf(s), s.number);
            }
        }

        void browse(int host, int type, Browser browser) {
            boolean isToRefresh = false;
            for (Kept kept : hosts.get(host).cache) {
                isToRefresh |= kept.needsRefresh(type, time);
            }
            if (browser.time <= time) {
                ask(host, type, browser);
                browser.time = time + browser.interval;
                browser.interval = Math.min(browser.interval * 2, 64);
            } else if (isToRefresh) {
                ask(host, type, browser);
                browser.refreshes++;
            } else {
                return;
            }
            for (Kept kept : hosts.get(host).cache) {
                if (kept.needsRefresh(type, time)) {
                    kept.age++;
                }
            }
        }

        void ask(int host, int type, Browser browser) {
            List<Answer> answers = new ArrayList<>();
            for (Kept kept : hosts.get(host).cache) {
                if (kept.name.type() == type && kept.end() - time > kept.ttl / 2) {
                    answers.add(new Answer(kept.name, kept.data));
                }
            }
            send(2, host, type, null, null, -1, answers);
            browser.queries++;
        }

        void come(Message m, int host) {
            for (Service s : services) {
                if (s.host != host) {
                    continue;
                }
                if (m.kind() == 2) {
                    if (s.type == m.type() && s.isAnnounced()) {
                        if (m.answers().contains(new Answer(s.name(), s.data()))) {
                            note(5, services.indexOf(s), s.number);
                        } else {
                            respond(s);
                        }
                    }
                } else if (s.name().equals(m.name())) {
                    if (m.kind() == 0) {
                        meetProbe(s, m);
                    } else if (m.ttl() > 0) {
                        meetResponse(s, m);
                    }
                }
            }
            if (m.kind() == 1) {
                keep(m, hosts.get(host).cache);
            }
        }

        void meetProbe(Service s, Message m) {
            if (s.isAnnounced()) {
                respond(s);
            } else if (s.state == 0 && s.probes >= 1 && m.data().isGreaterThan(s.data())) {
                s.lost++;
                note(1, services.indexOf(s), s.number);
                s.beginToProbe(time + 4);
            }
        }

        void meetResponse(Service s, Message m) {
            if (s.state == 0) {
                rename(s);
                s.beginToProbe(time + 1);
            } else if (s.isAnnounced()) {
                if (m.data().isGreaterThan(s.data())) {
                    s.conflicts++;
                    conflicts++;
                    note(2, services.indexOf(s), s.number);
                    s.beginToProbe(time + 1);
                } else if (s.data().isGreaterThan(m.data())) {
                    respond(s);
                }
            }
        }

        void keep(Message m, List<Kept> cache) {
            if (m.ttl() == 0) {
                for (Kept kept : cache) {
                    if (kept.name.equals(m.name()) && kept.data.equals(m.data()) && kept.end() > time + 1) {
                        kept.ttl = 1;
                        kept.born = time;
                    }
                }
                return;
            }
            Kept kept = new Kept();
            kept.name = m.name();
            kept.data = m.data();
            kept.ttl = m.ttl();
            kept.born = time;
            for (int place = 0; place < cache.size(); place++) {
                if (cache.get(place).name.equals(m.name())) {
                    cache.set(place, kept);
                    return;
                }
            }
            if (cache.size() == 16) {
                int first = 0;
                for (int place = 0; place < 16; place++) {
                    if (cache.get(place).end() < cache.get(first).end()) {
                        first = place;
                    }
                }
                cache.remove(first);
            }
            cache.add(kept);
        }

        // ---- what hosts know

        int known(int host, int service) {
            Service s = services.get(service);
            for (Kept kept : hosts.get(host).cache) {
                if (kept.name.equals(s.name()) && kept.data.host() == s.host) {
                    return kept.data.port();
                }
            }
            return -1;
        }

        int stale() {
            int found = 0;
            for (Host host : hosts) {
                for (Kept kept : host.cache) {
                    boolean isTrue = false;
                    for (Service s : services) {
                        isTrue |= s.host == kept.data.host() && s.isAnnounced() && s.name().equals(kept.name)
                            && s.port == kept.data.port() && hosts.get(s.host).isOn;
                    }
                    found += isTrue ? 0 : 1;
                }
            }
            return found;
        }

        boolean hasName(int host, Name name) {
            for (Service s : services) {
                if (s.host == host && s.state != 3 && s.name().equals(name)) {
                    return true;
                }
            }
            return false;
        }

        int add(int host, int type, String base, int port, int ttl) {
            Service s = new Service();
            s.host = host;
            s.type = type;
            s.base = base;
            s.port = port;
            s.ttl = ttl;
            s.beginToProbe(hosts.get(host).isOn ? time : -1);
            services.add(s);
            return services.size() - 1;
        }
    }

    private State now;
    private String buffer = "";
    private String output = "";
    private int code = 0;
    private int position = -1;
    private final List<State> kept = new ArrayList<>();
    private final State[] slots = new State[2];

    Model() {
        ModelText text = new ModelText("hosts a b;types t;service a t x 80 100;service b t x 90 100;browse a t;");
        now = text.read();
    }

    private static void index(boolean isWrong) {
        if (isWrong) {
            throw new IndexOutOfBoundsException();
        }
    }

    private static void argument(boolean isWrong) {
        if (isWrong) {
            throw new IllegalArgumentException();
        }
    }

    private static void state(boolean isWrong) {
        if (isWrong) {
            throw new IllegalStateException();
        }
    }

    private static void element(boolean isWrong) {
        if (isWrong) {
            throw new NoSuchElementException();
        }
    }

    private void indexHost(int host) {
        index(host < 0 || host >= now.hosts.size());
    }

    private void indexType(int type) {
        index(type < 0 || type >= now.types.size());
    }

    private void indexService(int service) {
        index(service < 0 || service >= now.services.size());
    }

    public int append(int a, int b, int c, int d, int e) {
        state(buffer.length() > 780);
        for (int word : new int[] {a, b, c, d, e}) {
            buffer += "" + (char) (word >>> 24) + (char) (word >> 16 & 255) + (char) (word >> 8 & 255)
                + (char) (word & 255);
        }
        return buffer.length();
    }

    public int truncate(int length) {
        index(length < 0 || length > buffer.length());
        buffer = buffer.substring(0, length);
        return length;
    }

    public int load() {
        ModelText text = new ModelText(buffer);
        buffer = "";
        State read = text.read();
        code = text.code;
        position = text.position;
        argument(read == null);
        now = read;
        kept.clear();
        slots[0] = null;
        slots[1] = null;
        return now.services.size();
    }

    public int errorCode() {
        return code;
    }

    public int errorPosition() {
        return position;
    }

    public int find(int sort) {
        String wanted = buffer;
        buffer = "";
        argument(sort < 0 || sort > 2);
        List<String> names = new ArrayList<>();
        if (sort == 0) {
            now.hosts.forEach(host -> names.add(host.name));
        } else if (sort == 1) {
            names.addAll(now.types);
        } else {
            now.services.forEach(service -> names.add(service.base));
        }
        element(!names.contains(wanted));
        return names.indexOf(wanted);
    }

    public int count(int what) {
        argument(what < 0 || what > 11);
        int browsers = 0;
        for (Host host : now.hosts) {
            browsers += host.browsers.size();
        }
        return new int[] {now.hosts.size(), now.types.size(), now.services.size(), now.time, now.sent, now.lost,
            now.underWay.size(), browsers, now.renamings, now.conflicts, now.log.size(), kept.size()}[what];
    }

    public int host(int host, int what) {
        indexHost(host);
        argument(what < 0 || what > 5);
        Host h = now.hosts.get(host);
        int services = 0;
        for (Service s : now.services) {
            services += s.host == host && s.state != 3 ? 1 : 0;
        }
        return new int[] {h.isOn ? 1 : 0, h.side, services, h.cache.size(), h.browsers.size(), h.sent}[what];
    }

    public int service(int service, int what) {
        indexService(service);
        argument(what < 0 || what > 10);
        Service s = now.services.get(service);
        return new int[] {s.host, s.type, s.number, s.port, s.ttl, s.state, s.probes, s.alarm, s.renamed, s.lost,
            s.conflicts}[what];
    }

    public int baseByte(int service, int place) {
        indexService(service);
        String base = now.services.get(service).base;
        return place < 0 || place >= base.length() ? -1 : base.charAt(place);
    }

    public boolean haveSameName(int service, int other) {
        indexService(service);
        indexService(other);
        return now.services.get(service).name().equals(now.services.get(other).name());
    }

    private Kept recordAt(int host, int place) {
        indexHost(host);
        index(place < 0 || place >= now.hosts.get(host).cache.size());
        return now.hosts.get(host).cache.get(place);
    }

    public int record(int host, int place, int what) {
        Kept r = recordAt(host, place);
        argument(what < 0 || what > 7);
        return new int[] {r.name.type(), r.name.number(), r.data.port(), r.data.host(), r.ttl, r.born, r.age,
            r.end()}[what];
    }

    public int recordByte(int host, int place, int letter) {
        String base = recordAt(host, place).name.base();
        return letter < 0 || letter >= base.length() ? -1 : base.charAt(letter);
    }

    public int browser(int host, int type, int what) {
        indexHost(host);
        indexType(type);
        argument(what < 0 || what > 3);
        Browser b = now.hosts.get(host).browsers.get(type);
        return b == null ? -1 : new int[] {b.time, b.interval, b.queries, b.refreshes}[what];
    }

    public int message(int place, int what) {
        index(place < 0 || place >= now.underWay.size());
        argument(what < 0 || what > 7);
        Message m = now.underWay.get(place);
        boolean isQuery = m.kind() == 2;
        return new int[] {m.kind(), m.number(), m.from(), m.type(), isQuery ? -1 : m.name().number(),
            isQuery ? -1 : m.data().port(), m.kind() == 1 ? m.ttl() : -1, isQuery ? m.answers().size() : -1}[what];
    }

    public boolean isMarked(int message) {
        argument(message < 0 || message > 999);
        return now.marks.contains(message);
    }

    public int log(int event, int what) {
        index(event < 0 || event >= now.log.size());
        argument(what < 0 || what > 3);
        Event e = now.log.get(event);
        return new int[] {e.kind(), e.time(), e.whose(), e.number()}[what];
    }

    public int known(int host, int service) {
        indexHost(host);
        indexService(service);
        return now.known(host, service);
    }

    public int records(int host, int type) {
        indexHost(host);
        indexType(type);
        int found = 0;
        for (Kept r : now.hosts.get(host).cache) {
            found += r.name.type() == type ? 1 : 0;
        }
        return found;
    }

    public int stale() {
        return now.stale();
    }

    public int clashes() {
        int found = 0;
        for (Service s : now.services) {
            for (Service o : now.services) {
                Host first = now.hosts.get(s.host);
                Host second = now.hosts.get(o.host);
                if (s != o && s.name().equals(o.name()) && s.isAnnounced() && o.isAnnounced()
                        && first.isOn && second.isOn && first.side == second.side) {
                    found++;
                }
            }
        }
        return found / 2;
    }

    public double coverage() {
        double pairs = 0;
        double good = 0;
        for (int host = 0; host < now.hosts.size(); host++) {
            for (int service = 0; service < now.services.size(); service++) {
                Service s = now.services.get(service);
                Host h = now.hosts.get(host);
                Host owner = now.hosts.get(s.host);
                if (h.isOn && s.state == 2 && s.host != host && owner.isOn && owner.side == h.side) {
                    pairs++;
                    good += now.known(host, service) == s.port ? 1 : 0;
                }
            }
        }
        return pairs == 0 ? 0.0 : good / pairs;
    }

    public int why(int service, int depth) {
        indexService(service);
        argument(depth < 0 || depth > 1);
        Service s = now.services.get(service);
        int reason;
        int cause = -1;
        if (s.state == 2) {
            reason = 0;
        } else if (s.state == 3) {
            reason = 1;
        } else if (!now.hosts.get(s.host).isOn) {
            reason = 2;
        } else if (s.state == 1) {
            reason = 3;
            cause = s.alarm - now.time;
        } else if (s.probes == 0 && s.alarm > now.time) {
            reason = 4;
            cause = s.alarm - now.time;
        } else {
            reason = 5;
            cause = 3 - s.probes;
        }
        return depth == 0 ? reason : cause;
    }

    public int establishedIn(int service) {
        indexService(service);
        State s = now.copy();
        int ticks = 0;
        while (ticks <= 100 && s.services.get(service).state != 2) {
            s.tick();
            ticks++;
        }
        element(ticks > 100);
        return ticks;
    }

    public int numberIn(int service, int ticks) {
        indexService(service);
        argument(ticks < 0 || ticks > 100);
        State s = now.copy();
        for (int tick = 0; tick < ticks; tick++) {
            s.tick();
        }
        return s.services.get(service).number;
    }

    public int knownIn(int host, int service) {
        indexHost(host);
        indexService(service);
        State s = now.copy();
        int ticks = 0;
        while (ticks <= 100 && s.known(host, service) != s.services.get(service).port) {
            s.tick();
            ticks++;
        }
        element(ticks > 100);
        return ticks;
    }

    public int messagesIn(int ticks) {
        argument(ticks < 0 || ticks > 100);
        State s = now.copy();
        for (int tick = 0; tick < ticks; tick++) {
            s.tick();
        }
        return s.sent - now.sent;
    }

    public int freshIn() {
        State s = now.copy();
        int ticks = 0;
        while (ticks <= 100 && s.stale() > 0) {
            s.tick();
            ticks++;
        }
        element(ticks > 100);
        return ticks;
    }

    public int numberIf(int host, int type, int like, int port) {
        indexHost(host);
        indexType(type);
        indexService(like);
        argument(port < 1 || port > 999);
        String base = now.services.get(like).base;
        state(!now.hosts.get(host).isOn || now.hasName(host, new Name(base, 0, type)));
        State s = now.copy();
        int service = s.add(host, type, base, port, 100);
        for (int ticks = 0; ticks < 100; ticks++) {
            s.tick();
            if (s.services.get(service).state == 2) {
                return s.services.get(service).number;
            }
        }
        throw new NoSuchElementException();
    }

    public int write() {
        StringBuilder text = new StringBuilder();
        for (Service s : now.services) {
            text.append(s.base).append(s.number == 0 ? "" : "-" + s.number).append('.').append(now.types.get(s.type))
                .append(' ').append("paew".charAt(s.state)).append('\n');
        }
        output = text.toString();
        return output.length();
    }

    public int outputByte(int place) {
        index(place < 0 || place >= output.length());
        return output.charAt(place);
    }

    private void keep() {
        kept.add(now.copy());
        if (kept.size() > 8) {
            kept.remove(0);
        }
    }

    public int pass(int ticks) {
        argument(ticks < 1 || ticks > 100);
        state(now.time + ticks > 5000);
        keep();
        int before = now.sent;
        for (int tick = 0; tick < ticks; tick++) {
            now.tick();
        }
        return now.sent - before;
    }

    public int add(int host, int type, int port, int ttl) {
        String base = buffer;
        buffer = "";
        indexHost(host);
        indexType(type);
        argument(port < 1 || port > 999 || ttl < 20 || ttl > 1000 || !base.matches("[a-z]{1,6}"));
        state(now.services.size() >= 12 || now.hasName(host, new Name(base, 0, type)));
        keep();
        return now.add(host, type, base, port, ttl);
    }

    public int withdraw(int service) {
        indexService(service);
        Service s = now.services.get(service);
        int before = s.state;
        state(before == 3);
        keep();
        if (s.isAnnounced() && now.hosts.get(s.host).isOn) {
            now.sayGoodbye(s);
        }
        s.state = 3;
        s.alarm = -1;
        return before;
    }

    public int setPort(int service, int port) {
        indexService(service);
        argument(port < 1 || port > 999);
        keep();
        Service s = now.services.get(service);
        int before = s.port;
        s.port = port;
        if (s.isAnnounced() && now.hosts.get(s.host).isOn) {
            now.respond(s);
            s.state = 1;
            s.alarm = now.time + 4;
        }
        return before;
    }

    public int setOn(int host, boolean isOn, boolean isPolite) {
        indexHost(host);
        keep();
        Host h = now.hosts.get(host);
        if (h.isOn && !isOn) {
            for (Service s : now.services) {
                if (s.host == host && isPolite && s.isAnnounced()) {
                    now.sayGoodbye(s);
                }
            }
            h.cache.clear();
            h.browsers.clear();
            for (Service s : now.services) {
                if (s.host == host && s.state != 3) {
                    s.alarm = -1;
                }
            }
        } else if (!h.isOn && isOn) {
            for (Service s : now.services) {
                if (s.host == host && s.state != 3) {
                    s.beginToProbe(now.time);
                }
            }
        }
        h.isOn = isOn;
        int on = 0;
        for (Host each : now.hosts) {
            on += each.isOn ? 1 : 0;
        }
        return on;
    }

    public int setSide(int host, int side) {
        indexHost(host);
        argument(side < 0 || side > 1);
        keep();
        int before = now.hosts.get(host).side;
        now.hosts.get(host).side = side;
        return before;
    }

    public int browse(int host, int type, boolean isBrowsing) {
        indexHost(host);
        indexType(type);
        Host before = now.hosts.get(host);
        state(isBrowsing && !before.isOn);
        keep();
        if (!isBrowsing) {
            before.browsers.remove(type);
        } else if (!before.browsers.containsKey(type)) {
            Browser browser = new Browser();
            browser.time = now.time;
            before.browsers.put(type, browser);
        }
        return before.browsers.size();
    }

    public int mark(int message) {
        argument(message < 0 || message > 999);
        state(message < now.sent || now.marks.contains(message) || now.marks.size() >= 30);
        keep();
        now.marks.add(message);
        return now.marks.size();
    }

    public int undo() {
        state(kept.isEmpty());
        now = kept.remove(kept.size() - 1);
        return kept.size();
    }

    public void save(int slot) {
        index(slot < 0 || slot > 1);
        slots[slot] = now.copy();
    }

    public void restore(int slot) {
        index(slot < 0 || slot > 1);
        element(slots[slot] == null);
        now = slots[slot].copy();
        kept.clear();
    }
}
