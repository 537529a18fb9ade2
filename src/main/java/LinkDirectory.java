import java.util.NoSuchElementException;

/**
 * A simulator of service discovery on a link (multicast DNS). The public methods look at their arguments,
 * throw what the document names, and leave the work to the classes below.
 */
public final class LinkDirectory {
    public static final int NONE = -1;
    public static final int PROBING = 0, ANNOUNCING = 1, ESTABLISHED = 2, WITHDRAWN = 3;

    private static final int MOST_BYTES = 800, MOST_OUTPUT = 400;
    private static final int MOST_TIME = 5000, MOST_TICKS = 100;
    private static final int MOST_HOSTS = 6, MOST_TYPES = 4, MOST_SERVICES = 12;
    private static final int MOST_RECORDS = 16, MOST_MARKS = 30, MOST_EVENTS = 20;
    private static final int MOST_UNDONE = 8, SLOTS = 2;
    private static final int MOST_MESSAGE = 999, MOST_INT = 0x7fffffff;
    private static final int LEAST_PORT = 1, MOST_PORT = 999, LEAST_TTL = 20, MOST_TTL = 1000;
    private static final int SUPPOSED_TTL = 100;
    private static final int MOST_LETTERS = 6, LETTER_BITS = 5;
    private static final int MOST_PROBES = 3, MOST_AGE = 4, FIRST_INTERVAL = 2, MOST_INTERVAL = 64;

    private static final int PROBE = 0, RESPONSE = 1, QUERY = 2;
    // What a service can send beside these two kinds: a response with the TTL 0.
    private static final int GOODBYE = 3;
    private static final int RENAMED_EVENT = 0, LOST_EVENT = 1, CONFLICT_EVENT = 2, ESTABLISHED_EVENT = 3;
    private static final int EXPIRED_EVENT = 4, SUPPRESSED_EVENT = 5, MESSAGE_LOST_EVENT = 6;

    // The columns of the tables. Services, records, parts of the mail and known answers begin with the same ones.
    private static final int HOST = 0, TYPE = 1, NUMBER = 2, PORT = 3, TTL = 4, BASE = 5, SHARED_COLUMNS = 6;
    private static final int STATE = 6, PROBES = 7, ALARM = 8, RENAMED = 9, LOST = 10, CONFLICTS = 11;
    private static final int SERVICE_COLUMNS = 12;
    private static final int BORN = 6, AGE = 7, RECORD_COLUMNS = 8;
    // SENT_BY and LATEST are the first of six columns.
    private static final int KIND = 6, ANSWERS = 7, FIRST_ANSWER = 8, LENGTH = 9, FIRST_PIECE = 10, PIECES = 11;
    private static final int SENT_BY = 12, LATEST = SENT_BY + MOST_HOSTS, WANTED = LATEST + MOST_HOSTS;
    private static final int REPLIED = WANTED + 1, REPLY = REPLIED + 1, PART_COLUMNS = REPLY + 1;
    private static final int PART = 0, PIECE_COLUMNS = 1, FIRST_ID = 1, ITEM_COLUMNS = 2;
    private static final int NAME = 0, TYPE_COLUMNS = 1;
    private static final int IS_OFF = 1, SIDE = 2, SENT = 3, HOST_COLUMNS = 4;
    private static final int TIME = 0, INTERVAL = 1, QUERIES = 2, REFRESHES = 3, IS_BROWSING = 4, BROWSER_COLUMNS = 5;
    private static final int MARKED = 0, MARK_COLUMNS = 1;
    private static final int SORT = 0, WHEN = 1, WHOSE = 2, DETAIL = 3, EVENT_COLUMNS = 4;

    private static final String FIRST_TEXT =
        "hosts a b;types t;service a t x 80 100;service b t x 90 100;browse a t;";

    private final Text buffer;
    private final Text output;
    private final Link now;
    private final Link scratch;
    private final History history;
    private final Link[] slots;
    private final boolean[] isSaved;
    private int errorCode;
    private int errorPosition;

    public LinkDirectory() {
        buffer = new Text(MOST_BYTES);
        output = new Text(MOST_OUTPUT);
        now = new Link();
        scratch = new Link();
        history = new History();
        slots = new Link[SLOTS];
        isSaved = new boolean[SLOTS];
        for (int slot = 0; slot < slots.length; slot++) {
            slots[slot] = new Link();
        }
        errorCode = 0;
        errorPosition = NONE;
        buffer.putAll(FIRST_TEXT);
        new Reader(buffer, now).readText();
        buffer.cutTo(0);
    }

    // ---- the text

    public int append(int a, int b, int c, int d, int e) throws IllegalStateException {
        if (buffer.size() + 20 > MOST_BYTES) {
            throw new IllegalStateException("the buffer would be longer than 800 bytes");
        }
        buffer.putFour(a);
        buffer.putFour(b);
        buffer.putFour(c);
        buffer.putFour(d);
        buffer.putFour(e);
        return buffer.size();
    }

    public int truncate(int length) throws IndexOutOfBoundsException {
        if (length < 0 || length > buffer.size()) {
            throw new IndexOutOfBoundsException("the buffer is not that long");
        }
        buffer.cutTo(length);
        return length;
    }

    public int load() throws IllegalArgumentException {
        Reader reader = new Reader(buffer, scratch);
        boolean isRead = reader.readText();
        buffer.cutTo(0);
        errorCode = reader.code;
        errorPosition = reader.position;
        if (!isRead) {
            throw new IllegalArgumentException("the text has an error");
        }
        now.copyFrom(scratch);
        history.forget();
        for (int slot = 0; slot < isSaved.length; slot++) {
            isSaved[slot] = false;
        }
        return now.services.size();
    }

    public int errorCode() {
        return errorCode;
    }

    public int errorPosition() {
        return errorPosition;
    }

    public int find(int sort) throws IllegalArgumentException, NoSuchElementException {
        int word = buffer.asWord();
        buffer.cutTo(0);
        if (sort < 0 || sort > 2) {
            throw new IllegalArgumentException("sort is 0 to 2");
        }
        int place = sort == 0 ? now.hosts.placeOf(NAME, word)
            : sort == 1 ? now.types.placeOf(NAME, word) : now.services.placeOf(BASE, word);
        if (place == NONE) {
            throw new NoSuchElementException("nothing has this name");
        }
        return place;
    }

    // ---- what there is

    public int count(int what) throws IllegalArgumentException {
        switch (what) {
            case 0: return now.hosts.size();
            case 1: return now.types.size();
            case 2: return now.services.size();
            case 3: return now.time;
            case 4: return intOf(now.sent);
            case 5: return now.lost;
            case 6: return now.messagesUnderWay();
            case 7: return now.browsersOfAll();
            case 8: return now.renamings;
            case 9: return now.conflicts;
            case 10: return now.eventsKept();
            case 11: return history.size();
            default: throw new IllegalArgumentException("what is 0 to 11");
        }
    }

    public int host(int host, int what) throws IndexOutOfBoundsException, IllegalArgumentException {
        mustHaveHost(host);
        switch (what) {
            case 0: return now.isOn(host) ? 1 : 0;
            case 1: return now.hosts.at(host, SIDE);
            case 2: return now.servicesOf(host);
            case 3: return now.cacheOf(host).size();
            case 4: return now.browsersOf(host);
            case 5: return now.hosts.at(host, SENT);
            default: throw new IllegalArgumentException("what is 0 to 5");
        }
    }

    public int service(int service, int what) throws IndexOutOfBoundsException, IllegalArgumentException {
        mustHaveService(service);
        switch (what) {
            case 0: return now.services.at(service, HOST);
            case 1: return now.services.at(service, TYPE);
            case 2: return now.services.at(service, NUMBER);
            case 3: return now.services.at(service, PORT);
            case 4: return now.services.at(service, TTL);
            case 5: return now.services.at(service, STATE);
            case 6: return now.services.at(service, PROBES);
            case 7: return now.services.at(service, ALARM);
            case 8: return now.services.at(service, RENAMED);
            case 9: return now.services.at(service, LOST);
            case 10: return now.services.at(service, CONFLICTS);
            default: throw new IllegalArgumentException("what is 0 to 10");
        }
    }

    public int baseByte(int service, int place) throws IndexOutOfBoundsException {
        mustHaveService(service);
        return letterOf(now.services.at(service, BASE), place);
    }

    public boolean haveSameName(int service, int other) throws IndexOutOfBoundsException {
        mustHaveService(service);
        mustHaveService(other);
        return now.services.isNamedAs(service, now.services, other);
    }

    public int record(int host, int place, int what) throws IndexOutOfBoundsException, IllegalArgumentException {
        mustHaveRecord(host, place);
        Table cache = now.cacheOf(host);
        switch (what) {
            case 0: return cache.at(place, TYPE);
            case 1: return cache.at(place, NUMBER);
            case 2: return cache.at(place, PORT);
            case 3: return cache.at(place, HOST);
            case 4: return cache.at(place, TTL);
            case 5: return cache.at(place, BORN);
            case 6: return cache.at(place, AGE);
            case 7: return cache.endOfRecord(place);
            default: throw new IllegalArgumentException("what is 0 to 7");
        }
    }

    public int recordByte(int host, int place, int letter) throws IndexOutOfBoundsException {
        mustHaveRecord(host, place);
        return letterOf(now.cacheOf(host).at(place, BASE), letter);
    }

    public int browser(int host, int type, int what) throws IndexOutOfBoundsException, IllegalArgumentException {
        mustHaveHost(host);
        mustHaveType(type);
        if (what < TIME || what > REFRESHES) {
            throw new IllegalArgumentException("what is 0 to 3");
        }
        return now.isBrowsing(host, type) ? now.browsers.at(Link.browserOf(host, type), what) : NONE;
    }

    public int message(int place, int what) throws IndexOutOfBoundsException, IllegalArgumentException {
        if (place < 0 || place >= now.messagesUnderWay()) {
            throw new IndexOutOfBoundsException("there is no such message");
        }
        int due = now.due.length();
        Mail mail = place < due ? now.due : now.later;
        int placeInMail = place < due ? place : place - due;
        int message = mail.messageAt(placeInMail);
        switch (what) {
            case 0: return mail.parts.at(message, KIND);
            case 1: return mail.idAt(placeInMail);
            case 2: return mail.parts.at(message, HOST);
            case 3: return mail.parts.at(message, TYPE);
            case 4: return mail.parts.at(message, NUMBER);
            case 5: return mail.parts.at(message, PORT);
            case 6: return mail.parts.at(message, TTL);
            case 7: return mail.parts.at(message, ANSWERS);
            default: throw new IllegalArgumentException("what is 0 to 7");
        }
    }

    public boolean isMarked(int message) throws IllegalArgumentException {
        mustBeMessage(message);
        return now.marks.placeOf(MARKED, message) != NONE;
    }

    public int log(int event, int what) throws IndexOutOfBoundsException, IllegalArgumentException {
        if (event < 0 || event >= now.eventsKept()) {
            throw new IndexOutOfBoundsException("there is no such event");
        }
        if (what < SORT || what > DETAIL) {
            throw new IllegalArgumentException("what is 0 to 3");
        }
        return now.events.at((now.noted - 1 - event) % MOST_EVENTS, what);
    }

    // ---- what hosts know

    public int known(int host, int service) throws IndexOutOfBoundsException {
        mustHaveHost(host);
        mustHaveService(service);
        return now.portKnown(host, service);
    }

    public int records(int host, int type) throws IndexOutOfBoundsException {
        mustHaveHost(host);
        mustHaveType(type);
        return now.recordsOf(host, type);
    }

    public int stale() {
        return now.staleRecords();
    }

    public int clashes() {
        return now.clashingPairs();
    }

    public double coverage() {
        int pairs = now.pairsToKnow(false);
        return pairs == 0 ? 0.0 : (double) now.pairsToKnow(true) / (double) pairs;
    }

    public int why(int service, int depth) throws IndexOutOfBoundsException, IllegalArgumentException {
        mustHaveService(service);
        if (depth != 0 && depth != 1) {
            throw new IllegalArgumentException("depth is 0 or 1");
        }
        int reason = now.reasonOf(service);
        return depth == 0 ? reason : now.causeOf(service, reason);
    }

    // ---- what will happen if nothing is changed

    public int establishedIn(int service) throws IndexOutOfBoundsException, NoSuchElementException {
        mustHaveService(service);
        scratch.copyFrom(now);
        for (int ticks = 0; ticks <= MOST_TICKS; ticks++) {
            if (scratch.services.at(service, STATE) == ESTABLISHED) {
                return ticks;
            }
            scratch.tick();
        }
        throw new NoSuchElementException("it will not be established within 100 ticks");
    }

    public int numberIn(int service, int ticks) throws IndexOutOfBoundsException, IllegalArgumentException {
        mustHaveService(service);
        mustBeTicks(ticks, 0);
        scratch.copyFrom(now);
        for (int passed = 0; passed < ticks; passed++) {
            scratch.tick();
        }
        return scratch.services.at(service, NUMBER);
    }

    public int knownIn(int host, int service) throws IndexOutOfBoundsException, NoSuchElementException {
        mustHaveHost(host);
        mustHaveService(service);
        scratch.copyFrom(now);
        for (int ticks = 0; ticks <= MOST_TICKS; ticks++) {
            if (scratch.portKnown(host, service) == scratch.services.at(service, PORT)) {
                return ticks;
            }
            scratch.tick();
        }
        throw new NoSuchElementException("the host will not know it within 100 ticks");
    }

    public int messagesIn(int ticks) throws IllegalArgumentException {
        mustBeTicks(ticks, 0);
        scratch.copyFrom(now);
        for (int passed = 0; passed < ticks; passed++) {
            scratch.tick();
        }
        return intOf(scratch.sent - now.sent);
    }

    public int freshIn() throws NoSuchElementException {
        scratch.copyFrom(now);
        for (int ticks = 0; ticks <= MOST_TICKS; ticks++) {
            if (scratch.staleRecords() == 0) {
                return ticks;
            }
            scratch.tick();
        }
        throw new NoSuchElementException("there will be stale records for 100 ticks");
    }

    public int numberIf(int host, int type, int like, int port)
            throws IndexOutOfBoundsException, IllegalArgumentException, IllegalStateException, NoSuchElementException {
        mustHaveHost(host);
        mustHaveType(type);
        mustHaveService(like);
        mustBePort(port);
        int base = now.services.at(like, BASE);
        if (now.isTaken(host, type, base) || !now.isOn(host)) {
            throw new IllegalStateException("the host has this name, or is off");
        }
        scratch.copyFrom(now);
        int added = scratch.addService(host, type, base, port, SUPPOSED_TTL);
        for (int ticks = 0; ticks <= MOST_TICKS; ticks++) {
            if (scratch.services.at(added, STATE) == ESTABLISHED) {
                return scratch.services.at(added, NUMBER);
            }
            scratch.tick();
        }
        throw new NoSuchElementException("it would not be established within 100 ticks");
    }

    // ---- the output

    public int write() {
        output.cutTo(0);
        for (int service = 0; service < now.services.size(); service++) {
            int number = now.services.at(service, NUMBER);
            output.putWord(now.services.at(service, BASE));
            if (number != 0) {
                output.put('-');
                output.putNumber(number);
            }
            output.put('.');
            output.putWord(now.types.at(now.services.at(service, TYPE), NAME));
            output.put(' ');
            output.put(signOf(now.services.at(service, STATE)));
            output.put('\n');
        }
        return output.size();
    }

    public int outputByte(int place) throws IndexOutOfBoundsException {
        if (place < 0 || place >= output.size()) {
            throw new IndexOutOfBoundsException("there is no such byte");
        }
        return output.byteAt(place);
    }

    // ---- changes

    public int pass(int ticks) throws IllegalArgumentException, IllegalStateException {
        mustBeTicks(ticks, 1);
        if (now.time + ticks > MOST_TIME) {
            throw new IllegalStateException("the time would be greater than 5000");
        }
        history.keep(now);
        long sentBefore = now.sent;
        for (int passed = 0; passed < ticks; passed++) {
            now.tick();
        }
        return intOf(now.sent - sentBefore);
    }

    public int add(int host, int type, int port, int ttl)
            throws IndexOutOfBoundsException, IllegalArgumentException, IllegalStateException {
        int base = buffer.asWord();
        buffer.cutTo(0);
        mustHaveHost(host);
        mustHaveType(type);
        mustBePort(port);
        if (ttl < LEAST_TTL || ttl > MOST_TTL || base == NONE) {
            throw new IllegalArgumentException("ttl is 20 to 1000, and the buffer a word of 1 to 6 letters");
        }
        if (now.services.size() >= MOST_SERVICES || now.isTaken(host, type, base)) {
            throw new IllegalStateException("there are 12 services, or the host has this name");
        }
        history.keep(now);
        return now.addService(host, type, base, port, ttl);
    }

    public int withdraw(int service) throws IndexOutOfBoundsException, IllegalStateException {
        mustHaveService(service);
        int before = now.services.at(service, STATE);
        if (before == WITHDRAWN) {
            throw new IllegalStateException("it is withdrawn");
        }
        history.keep(now);
        now.withdrawService(service);
        return before;
    }

    public int setPort(int service, int port) throws IndexOutOfBoundsException, IllegalArgumentException {
        mustHaveService(service);
        mustBePort(port);
        history.keep(now);
        int before = now.services.at(service, PORT);
        now.changePort(service, port);
        return before;
    }

    public int setOn(int host, boolean isOn, boolean isPolite) throws IndexOutOfBoundsException {
        mustHaveHost(host);
        history.keep(now);
        if (isOn && !now.isOn(host)) {
            now.switchOn(host);
        }
        if (!isOn && now.isOn(host)) {
            now.switchOff(host, isPolite);
        }
        return now.hostsOn();
    }

    public int setSide(int host, int side) throws IndexOutOfBoundsException, IllegalArgumentException {
        mustHaveHost(host);
        if (side != 0 && side != 1) {
            throw new IllegalArgumentException("side is 0 or 1");
        }
        history.keep(now);
        int before = now.hosts.at(host, SIDE);
        now.hosts.put(host, SIDE, side);
        return before;
    }

    public int browse(int host, int type, boolean isBrowsing) throws IndexOutOfBoundsException, IllegalStateException {
        mustHaveHost(host);
        mustHaveType(type);
        if (isBrowsing && !now.isOn(host)) {
            throw new IllegalStateException("the host is off");
        }
        history.keep(now);
        if (isBrowsing && !now.isBrowsing(host, type)) {
            now.beginToBrowse(host, type);
        }
        if (!isBrowsing) {
            now.endBrowsing(host, type);
        }
        return now.browsersOf(host);
    }

    public int mark(int message) throws IllegalArgumentException, IllegalStateException {
        mustBeMessage(message);
        if (message < now.sent || now.marks.placeOf(MARKED, message) != NONE || now.marks.size() >= MOST_MARKS) {
            throw new IllegalStateException("it was sent or marked already, or there are 30 marked messages");
        }
        history.keep(now);
        now.addMark(message);
        return now.marks.size();
    }

    public int undo() throws IllegalStateException {
        if (history.size() == 0) {
            throw new IllegalStateException("there is no change to undo");
        }
        history.takeBack(now);
        return history.size();
    }

    public void save(int slot) throws IndexOutOfBoundsException {
        mustBeSlot(slot);
        Link saved = slots[slot];
        if (saved != null) {
            saved.copyFrom(now);
            isSaved[slot] = true;
        }
    }

    public void restore(int slot) throws IndexOutOfBoundsException, NoSuchElementException {
        mustBeSlot(slot);
        Link saved = slots[slot];
        if (saved == null || !isSaved[slot]) {
            throw new NoSuchElementException("nothing is saved in the slot");
        }
        now.copyFrom(saved);
        history.forget();
    }

    // ---- what arguments must be

    private void mustHaveHost(int host) {
        if (host < 0 || host >= now.hosts.size()) {
            throw new IndexOutOfBoundsException("there is no such host");
        }
    }

    private void mustHaveType(int type) {
        if (type < 0 || type >= now.types.size()) {
            throw new IndexOutOfBoundsException("there is no such type");
        }
    }

    private void mustHaveService(int service) {
        if (service < 0 || service >= now.services.size()) {
            throw new IndexOutOfBoundsException("there is no such service");
        }
    }

    private void mustHaveRecord(int host, int place) {
        mustHaveHost(host);
        if (place < 0 || place >= now.cacheOf(host).size()) {
            throw new IndexOutOfBoundsException("there is no such record");
        }
    }

    private void mustBeSlot(int slot) {
        if (slot < 0 || slot >= slots.length || slot >= isSaved.length) {
            throw new IndexOutOfBoundsException("there is no such slot");
        }
    }

    private static void mustBePort(int port) {
        if (port < LEAST_PORT || port > MOST_PORT) {
            throw new IllegalArgumentException("port is 1 to 999");
        }
    }

    private static void mustBeMessage(int message) {
        if (message < 0 || message > MOST_MESSAGE) {
            throw new IllegalArgumentException("message is 0 to 999");
        }
    }

    private static void mustBeTicks(int ticks, int least) {
        if (ticks < least || ticks > MOST_TICKS) {
            throw new IllegalArgumentException("ticks is out of range");
        }
    }

    // ---- numbers, words and signs

    // Messages can be more than an int tells: the greatest int stands for all greater numbers.
    private static int intOf(long number) {
        return number > MOST_INT ? MOST_INT : (int) number;
    }

    // A word of at most 6 letters is held in one int: five bits for each letter, the first letter lowest.
    private static int letterOf(int word, int place) {
        int letter = place < 0 || place >= MOST_LETTERS ? 0 : word >> LETTER_BITS * place & 31;
        return letter == 0 ? NONE : 'a' - 1 + letter;
    }

    private static int signOf(int state) {
        return state == PROBING ? 'p' : state == ANNOUNCING ? 'a' : state == ESTABLISHED ? 'e' : 'w';
    }

    /** Bytes up to a length that never changes; what does not fit is left out. */
    private static final class Text {
        private final byte[] bytes;
        private int length;

        Text(int most) {
            bytes = new byte[Math.max(0, most)];
            length = 0;
        }

        int size() {
            return length;
        }

        int byteAt(int place) {
            return place < 0 || place >= length || place >= bytes.length ? NONE : bytes[place] & 255;
        }

        void cutTo(int newLength) {
            if (newLength >= 0 && newLength <= length) {
                length = newLength;
            }
        }

        void put(int value) {
            if (length >= 0 && length < bytes.length) {
                bytes[length] = (byte) value;
                length++;
            }
        }

        void putFour(int value) {
            put(value >>> 24);
            put(value >>> 16);
            put(value >>> 8);
            put(value);
        }

        void putAll(String letters) {
            for (int place = 0; place < letters.length(); place++) {
                put(letters.charAt(place));
            }
        }

        void putWord(int word) {
            for (int place = 0; place < MOST_LETTERS; place++) {
                int letter = letterOf(word, place);
                if (letter != NONE) {
                    put(letter);
                }
            }
        }

        void putNumber(int number) {
            boolean hasDigit = false;
            for (int unit = 1000000000; unit > 0; unit /= 10) {
                int digit = number / unit % 10;
                hasDigit = hasDigit || digit != 0 || unit == 1;
                if (hasDigit) {
                    put('0' + digit);
                }
            }
        }

        int asWord() {
            return wordIn(0, length);
        }

        /** The word of 1 to 6 letters between two places; NONE if there is something else. */
        int wordIn(int from, int to) {
            if (to - from < 1 || to - from > MOST_LETTERS) {
                return NONE;
            }
            int word = 0;
            for (int place = from; place < to; place++) {
                int letter = byteAt(place) - 'a' + 1;
                if (letter < 1 || letter > 26) {
                    return NONE;
                }
                word |= letter << LETTER_BITS * (place - from);
            }
            return word;
        }

        boolean isSame(int from, int to, String letters) {
            boolean isSame = to - from == letters.length();
            for (int place = 0; isSame && place < letters.length(); place++) {
                isSame = byteAt(from + place) == letters.charAt(place);
            }
            return isSame;
        }
    }

    /** Rows of numbers. A cell that is not there reads as NONE, and writing to it does nothing. */
    private static final class Table {
        private final int width;
        private final int most;
        private int[] cells;
        private int size;

        Table(int width, int rows, int most) {
            this.width = width;
            this.most = most;
            cells = new int[Math.max(0, width * rows)];
            size = 0;
        }

        int size() {
            return size;
        }

        int at(int row, int column) {
            int cell = row * width + column;
            boolean isThere = row >= 0 && row < size && column >= 0 && column < width;
            return isThere && cell >= 0 && cell < cells.length ? cells[cell] : NONE;
        }

        void put(int row, int column, int value) {
            int cell = row * width + column;
            boolean isThere = row >= 0 && row < size && column >= 0 && column < width;
            if (isThere && cell >= 0 && cell < cells.length) {
                cells[cell] = value;
            }
        }

        void increase(int row, int column) {
            put(row, column, intOf(at(row, column) + 1L));
        }

        void increaseBy(int row, int column, int number) {
            put(row, column, intOf(at(row, column) + (long) number));
        }

        /** Adds a row of zeros; answers its number, or NONE if there is no room. */
        int addRow() {
            if (size >= most) {
                return NONE;
            }
            int begin = size * width;
            int end = begin + width;
            if (end > cells.length) {
                int length = end < most * width - end ? end * 2 : most * width;
                int[] more = new int[length > 0 ? length : 0];
                for (int cell = 0; cell < begin && cell < cells.length && cell < more.length; cell++) {
                    more[cell] = cells[cell];
                }
                cells = more;
            }
            for (int cell = begin; cell < end && cell < cells.length; cell++) {
                cells[cell] = 0;
            }
            size++;
            return size - 1;
        }

        void dropRow(int row) {
            if (row >= 0 && row < size) {
                move(cells, (row + 1) * width, cells, row * width, (size - row - 1) * width);
                size--;
            }
        }

        void cutTo(int rows) {
            if (rows >= 0 && rows < size) {
                size = rows;
            }
        }

        void clear() {
            size = 0;
        }

        void copyFrom(Table other) {
            // Only a table of the same kind is sure to have room for the rows.
            if (other.width != width || other.most != most) {
                return;
            }
            if (other.cells.length > cells.length) {
                cells = new int[other.cells.length];
            }
            move(other.cells, 0, cells, 0, other.size * other.width);
            size = other.size;
        }

        private static void move(int[] from, int fromPlace, int[] to, int toPlace, int length) {
            boolean isInside = fromPlace >= 0 && toPlace >= 0 && length >= 0
                && length <= from.length - fromPlace && length <= to.length - toPlace;
            if (isInside) {
                System.arraycopy(from, fromPlace, to, toPlace, length);
            }
        }

        int placeOf(int column, int value) {
            for (int row = 0; row < size; row++) {
                if (at(row, column) == value) {
                    return row;
                }
            }
            return NONE;
        }

        // ---- for the tables that begin with the shared columns

        void copyShared(int row, Table other, int otherRow) {
            for (int column = 0; column < SHARED_COLUMNS; column++) {
                put(row, column, other.at(otherRow, column));
            }
        }

        boolean isNamedAs(int row, Table other, int otherRow) {
            return at(row, BASE) == other.at(otherRow, BASE) && at(row, NUMBER) == other.at(otherRow, NUMBER)
                && at(row, TYPE) == other.at(otherRow, TYPE);
        }

        int placeNamedAs(Table other, int otherRow) {
            for (int row = 0; row < size; row++) {
                if (isNamedAs(row, other, otherRow)) {
                    return row;
                }
            }
            return NONE;
        }

        /** Below 0 if the DATA of the row are smaller than those of the other row, 0 if they are the same. */
        int compareData(int row, Table other, int otherRow) {
            int byPort = Integer.compare(at(row, PORT), other.at(otherRow, PORT));
            return byPort != 0 ? byPort : Integer.compare(at(row, HOST), other.at(otherRow, HOST));
        }

        int endOfRecord(int row) {
            return at(row, BORN) + at(row, TTL);
        }
    }

    /**
     * The messages that were sent at one time, in their order. Services with the same name can answer each other
     * until there are more messages than could be held one by one. So a part, which is a message or a run of other
     * parts, is held once, and stands wherever it is sent again. The parts of a run have lower rows than the run,
     * and all messages in it are responses with the same name, one of each host at most.
     */
    private static final class Mail {
        // Far more than 512 calls can make.
        private static final int MOST_PARTS = 1 << 16, MOST_PIECES = 1 << 18, MOST_ITEMS = 1 << 18;

        private final Table parts;
        private final Table pieces;
        private final Table items;
        // The pieces behind this place belong to the run that is being made.
        private int ended;

        Mail() {
            parts = new Table(PART_COLUMNS, 32, MOST_PARTS);
            pieces = new Table(PIECE_COLUMNS, 32, MOST_PIECES);
            items = new Table(ITEM_COLUMNS, 64, MOST_ITEMS);
            ended = 0;
        }

        void clear() {
            parts.clear();
            pieces.clear();
            items.clear();
            ended = 0;
        }

        void copyFrom(Mail other) {
            parts.copyFrom(other.parts);
            pieces.copyFrom(other.pieces);
            items.copyFrom(other.items);
            ended = other.ended;
        }

        // ---- what is in it

        int length() {
            return lengthBefore(items, 0, items.size());
        }

        int idAt(int place) {
            int item = rowWith(items, 0, items.size(), place);
            return intOf((long) items.at(item, FIRST_ID) + place - lengthBefore(items, 0, item));
        }

        int messageAt(int place) {
            int item = rowWith(items, 0, items.size(), place);
            int part = items.at(item, PART);
            int left = place - lengthBefore(items, 0, item);
            for (int depth = 0; depth < MOST_PARTS && isRun(part); depth++) {
                int first = parts.at(part, FIRST_PIECE);
                int piece = rowWith(pieces, first, first + parts.at(part, PIECES), left);
                part = pieces.at(piece, PART);
                left -= lengthBefore(pieces, first, piece);
            }
            return part;
        }

        boolean isRun(int part) {
            return parts.at(part, PIECES) > 0;
        }

        private int lengthOf(Table list, int row) {
            return parts.at(list.at(row, PART), LENGTH);
        }

        /** The row of a list of parts, between two rows, that holds the message with this place among them. */
        private int rowWith(Table list, int from, int to, int place) {
            int left = place;
            for (int row = from; row < to; row++) {
                int length = lengthOf(list, row);
                if (left < length) {
                    return row;
                }
                left -= length;
            }
            return NONE;
        }

        private int lengthBefore(Table list, int from, int to) {
            long length = 0;
            for (int row = from; row < to; row++) {
                length += lengthOf(list, row);
            }
            return intOf(length);
        }

        // ---- what is put into it

        /** Sends a part whose first message has this number. */
        void addItem(int part, int firstId) {
            int item = items.addRow();
            items.put(item, PART, part);
            items.put(item, FIRST_ID, firstId);
        }

        int addMessage(int kind, int host) {
            int message = parts.addRow();
            parts.put(message, HOST, host);
            parts.put(message, KIND, kind);
            parts.put(message, ANSWERS, NONE);
            parts.put(message, LENGTH, 1);
            parts.put(message, SENT_BY + host, 1);
            parts.put(message, LATEST, message);
            for (int place = 1; place < MOST_HOSTS; place++) {
                parts.put(message, LATEST + place, NONE);
            }
            return message;
        }

        /** The part that is the message with the name and the DATA of a service, and a TTL. */
        int messageOf(Table services, int service, int kind, int ttl) {
            for (int part = 0; part < parts.size(); part++) {
                boolean isOfKind = parts.at(part, KIND) == kind && parts.at(part, TTL) == ttl;
                if (isOfKind && parts.isNamedAs(part, services, service)
                    && parts.compareData(part, services, service) == 0) {
                    return part;
                }
            }
            int message = addMessage(kind, services.at(service, HOST));
            parts.copyShared(message, services, service);
            parts.put(message, TTL, ttl);
            return message;
        }

        void addPiece(int part) {
            if (part != NONE) {
                pieces.put(pieces.addRow(), PART, part);
            }
        }

        /** Makes a part of the pieces that were added since the latest run; NONE if there are none. */
        int endRun() {
            int first = ended;
            int number = pieces.size() - first;
            if (number < 2) {
                int only = pieces.at(first, PART);
                pieces.cutTo(first);
                return only;
            }
            int run = parts.addRow();
            for (int column = 0; column < SENT_BY; column++) {
                parts.put(run, column, NONE);
            }
            for (int place = 0; place < MOST_HOSTS; place++) {
                parts.put(run, LATEST + place, NONE);
            }
            parts.put(run, LENGTH, 0);
            parts.put(run, FIRST_PIECE, first);
            parts.put(run, PIECES, number);
            for (int piece = first + number - 1; piece >= first; piece--) {
                growRun(run, pieces.at(piece, PART));
            }
            ended = pieces.size();
            return run;
        }

        /** Counts the messages of a piece as part of the run, of which the pieces behind it are counted already. */
        private void growRun(int run, int part) {
            parts.increaseBy(run, LENGTH, parts.at(part, LENGTH));
            for (int host = 0; host < MOST_HOSTS; host++) {
                parts.increaseBy(run, SENT_BY + host, parts.at(part, SENT_BY + host));
            }
            for (int place = 0; place < MOST_HOSTS; place++) {
                int message = parts.at(part, LATEST + place);
                if (message != NONE) {
                    addLatest(run, message);
                }
            }
        }

        private void addLatest(int run, int message) {
            for (int place = 0; place < MOST_HOSTS; place++) {
                int later = parts.at(run, LATEST + place);
                if (later == message) {
                    return;
                }
                if (later == NONE) {
                    parts.put(run, LATEST + place, message);
                    return;
                }
            }
        }

        // ---- what hosts send back

        /** Whether it is wanted, and not known, what hosts send back for a part in the present calm. */
        boolean isToReply(int part, int calm) {
            return parts.at(part, WANTED) == calm && parts.at(part, REPLIED) != calm;
        }

        void wantReply(int part, int calm) {
            parts.put(part, WANTED, calm);
            for (int run = part; run >= 0; run--) {
                int first = parts.at(run, FIRST_PIECE);
                int number = isToReply(run, calm) ? parts.at(run, PIECES) : 0;
                for (int piece = first; piece < first + number; piece++) {
                    parts.put(pieces.at(piece, PART), WANTED, calm);
                }
            }
        }

        void putReply(int part, int reply, int calm) {
            parts.put(part, REPLY, reply);
            parts.put(part, REPLIED, calm);
        }
    }

    /** The whole state of a link at a time, with all that it does in a tick. */
    private static final class Link {
        // Far more than a part has pieces.
        private static final int MOST_STEPS = 1000000, MOST_OPEN = 1 << 16;

        private final Table hosts;
        private final Table types;
        private final Table services;
        private final Table browsers;
        private final Table answers;
        private final Table marks;
        private final Table events;
        private final Table[] caches;
        private final Table noCache;
        // Parts of an item of the due mail that have to come one by one, the next one last.
        private final Table open;
        // What was sent in the latest tick, and what has been sent since then.
        private Mail due;
        private Mail later;
        private int time;
        private long sent;
        private int lost;
        private int renamings;
        private int conflicts;
        // Events so far: the row of an event is its number modulo 20, so that the latest ones are kept.
        private int noted;
        // A calm is a part of a tick in which no service changes as messages come: its number in the tick.
        private int calm;

        Link() {
            int mostBrowsers = MOST_HOSTS * MOST_TYPES;
            hosts = new Table(HOST_COLUMNS, MOST_HOSTS, MOST_HOSTS);
            types = new Table(TYPE_COLUMNS, MOST_TYPES, MOST_TYPES);
            // One more than there may be: numberIf() tries a service beyond the twelve.
            services = new Table(SERVICE_COLUMNS, MOST_SERVICES + 1, MOST_SERVICES + 1);
            browsers = new Table(BROWSER_COLUMNS, mostBrowsers, mostBrowsers);
            answers = new Table(SHARED_COLUMNS, 32, mostBrowsers * MOST_RECORDS);
            marks = new Table(MARK_COLUMNS, MOST_MARKS, MOST_MARKS);
            events = new Table(EVENT_COLUMNS, MOST_EVENTS, MOST_EVENTS);
            noCache = new Table(RECORD_COLUMNS, 0, 0);
            open = new Table(PIECE_COLUMNS, 32, MOST_OPEN);
            due = new Mail();
            later = new Mail();
            caches = new Table[MOST_HOSTS];
            for (int host = 0; host < caches.length; host++) {
                caches[host] = new Table(RECORD_COLUMNS, MOST_RECORDS, MOST_RECORDS);
            }
            reset();
        }

        void reset() {
            hosts.clear();
            types.clear();
            services.clear();
            browsers.clear();
            for (int browser = 0; browser < MOST_HOSTS * MOST_TYPES; browser++) {
                browsers.addRow();
            }
            due.clear();
            later.clear();
            answers.clear();
            marks.clear();
            events.clear();
            for (int event = 0; event < MOST_EVENTS; event++) {
                events.addRow();
            }
            for (int host = 0; host < MOST_HOSTS; host++) {
                cacheOf(host).clear();
            }
            time = 0;
            sent = 0;
            lost = 0;
            renamings = 0;
            conflicts = 0;
            noted = 0;
            calm = 0;
        }

        void copyFrom(Link other) {
            hosts.copyFrom(other.hosts);
            types.copyFrom(other.types);
            services.copyFrom(other.services);
            browsers.copyFrom(other.browsers);
            due.copyFrom(other.due);
            later.copyFrom(other.later);
            answers.copyFrom(other.answers);
            marks.copyFrom(other.marks);
            events.copyFrom(other.events);
            for (int host = 0; host < MOST_HOSTS; host++) {
                cacheOf(host).copyFrom(other.cacheOf(host));
            }
            time = other.time;
            sent = other.sent;
            lost = other.lost;
            renamings = other.renamings;
            conflicts = other.conflicts;
            noted = other.noted;
            calm = other.calm;
        }

        // ---- what there is

        Table cacheOf(int host) {
            Table cache = host < 0 || host >= caches.length ? noCache : caches[host];
            return cache == null ? noCache : cache;
        }

        static int browserOf(int host, int type) {
            return host * MOST_TYPES + type;
        }

        boolean isOn(int host) {
            return hosts.at(host, IS_OFF) == 0;
        }

        boolean isOnSameSide(int host, int other) {
            return hosts.at(host, SIDE) == hosts.at(other, SIDE);
        }

        boolean isBrowsing(int host, int type) {
            return browsers.at(browserOf(host, type), IS_BROWSING) == 1;
        }

        boolean holdsName(int service) {
            int state = services.at(service, STATE);
            return state == ANNOUNCING || state == ESTABLISHED;
        }

        int hostsOn() {
            int on = 0;
            for (int host = 0; host < hosts.size(); host++) {
                on += isOn(host) ? 1 : 0;
            }
            return on;
        }

        int servicesOf(int host) {
            int found = 0;
            for (int service = 0; service < services.size(); service++) {
                boolean isThere = services.at(service, STATE) != WITHDRAWN;
                found += isThere && services.at(service, HOST) == host ? 1 : 0;
            }
            return found;
        }

        int browsersOf(int host) {
            int found = 0;
            for (int type = 0; type < types.size(); type++) {
                found += isBrowsing(host, type) ? 1 : 0;
            }
            return found;
        }

        int browsersOfAll() {
            int found = 0;
            for (int host = 0; host < hosts.size(); host++) {
                found += browsersOf(host);
            }
            return found;
        }

        /** Whether a service of the host that is not withdrawn has this name, with the NUMBER 0. */
        boolean isTaken(int host, int type, int base) {
            for (int service = 0; service < services.size(); service++) {
                boolean isNamed = services.at(service, BASE) == base && services.at(service, NUMBER) == 0
                    && services.at(service, TYPE) == type;
                if (isNamed && services.at(service, HOST) == host && services.at(service, STATE) != WITHDRAWN) {
                    return true;
                }
            }
            return false;
        }

        int eventsKept() {
            return Math.min(MOST_EVENTS, noted);
        }

        int messagesUnderWay() {
            return intOf((long) due.length() + later.length());
        }

        // ---- what hosts know

        int portKnown(int host, int service) {
            Table cache = cacheOf(host);
            int place = cache.placeNamedAs(services, service);
            boolean isKnown = place != NONE && cache.at(place, HOST) == services.at(service, HOST);
            return isKnown ? cache.at(place, PORT) : NONE;
        }

        int recordsOf(int host, int type) {
            Table cache = cacheOf(host);
            int found = 0;
            for (int place = 0; place < cache.size(); place++) {
                found += cache.at(place, TYPE) == type ? 1 : 0;
            }
            return found;
        }

        int staleRecords() {
            int found = 0;
            for (int host = 0; host < hosts.size(); host++) {
                Table cache = cacheOf(host);
                for (int place = 0; place < cache.size(); place++) {
                    found += isStale(cache, place) ? 1 : 0;
                }
            }
            return found;
        }

        private boolean isStale(Table cache, int place) {
            for (int service = 0; service < services.size(); service++) {
                boolean isSame = services.isNamedAs(service, cache, place)
                    && services.compareData(service, cache, place) == 0;
                if (isSame && holdsName(service) && isOn(services.at(service, HOST))) {
                    return false;
                }
            }
            return true;
        }

        int clashingPairs() {
            int found = 0;
            for (int service = 0; service < services.size(); service++) {
                for (int other = service + 1; other < services.size(); other++) {
                    found += isClash(service, other) ? 1 : 0;
                }
            }
            return found;
        }

        private boolean isClash(int service, int other) {
            int host = services.at(service, HOST);
            int otherHost = services.at(other, HOST);
            return services.isNamedAs(service, services, other) && holdsName(service) && holdsName(other)
                && isOn(host) && isOn(otherHost) && isOnSameSide(host, otherHost);
        }

        /** Counts the pairs of a host and an established service that it can hear of; or only those that are known. */
        int pairsToKnow(boolean onlyKnown) {
            int found = 0;
            for (int host = 0; host < hosts.size(); host++) {
                for (int service = 0; service < services.size(); service++) {
                    boolean counts = isPairToKnow(host, service)
                        && (!onlyKnown || portKnown(host, service) == services.at(service, PORT));
                    found += counts ? 1 : 0;
                }
            }
            return found;
        }

        private boolean isPairToKnow(int host, int service) {
            int owner = services.at(service, HOST);
            return services.at(service, STATE) == ESTABLISHED && owner != host
                && isOn(host) && isOn(owner) && isOnSameSide(host, owner);
        }

        int reasonOf(int service) {
            int state = services.at(service, STATE);
            if (state == ESTABLISHED) {
                return 0;
            }
            if (state == WITHDRAWN) {
                return 1;
            }
            if (!isOn(services.at(service, HOST))) {
                return 2;
            }
            if (state == ANNOUNCING) {
                return 3;
            }
            return services.at(service, PROBES) == 0 && services.at(service, ALARM) > time ? 4 : 5;
        }

        int causeOf(int service, int reason) {
            if (reason == 3 || reason == 4) {
                return services.at(service, ALARM) - time;
            }
            return reason == 5 ? MOST_PROBES - services.at(service, PROBES) : NONE;
        }

        // ---- a tick

        void tick() {
            messagesCome();
            recordsExpire();
            servicesAct();
            browsersAct();
            Mail came = due;
            due = later;
            later = came;
            time++;
        }

        private void messagesCome() {
            calm = 1;
            for (int item = 0; item < due.items.size(); item++) {
                openPart(due.items.at(item, PART));
                for (int step = 0; open.size() > 0 && step < MOST_STEPS; step++) {
                    int part = takeOpenPart();
                    if (isCalm(part)) {
                        findReply(part);
                        sendReply(part);
                        keepLatest(part);
                        continue;
                    }
                    openPieces(part);
                    int kind = due.parts.at(part, KIND);
                    for (int host = 0; host < hosts.size(); host++) {
                        boolean comes = comesTo(part, host);
                        if (comes && kind == PROBE) {
                            probeComes(part, host);
                        } else if (comes && kind == RESPONSE) {
                            responseComes(part, host);
                        } else if (comes && kind == QUERY) {
                            queryComes(part, host);
                        }
                    }
                }
            }
            due.clear();
            // Only ticks send queries, so all known answers belong to the messages that came.
            answers.clear();
        }

        /** Whether a message comes to a host; a run comes to none, only the messages in it do. */
        private boolean comesTo(int message, int host) {
            int from = due.parts.at(message, HOST);
            return from != NONE && from != host && isOn(host) && isOnSameSide(host, from);
        }

        private void openPart(int part) {
            open.put(open.addRow(), PART, part);
        }

        private int takeOpenPart() {
            int part = open.at(open.size() - 1, PART);
            open.cutTo(open.size() - 1);
            return part;
        }

        private void openPieces(int run) {
            int first = due.parts.at(run, FIRST_PIECE);
            for (int piece = first + due.parts.at(run, PIECES) - 1; piece >= first; piece--) {
                openPart(due.pieces.at(piece, PART));
            }
        }

        // ---- parts that come as a whole

        /** Whether all messages of a part are responses that change no service, and none that is sent back is lost. */
        private boolean isCalm(int part) {
            boolean isCalm = !hasMarkAhead();
            for (int place = 0; isCalm && place < MOST_HOSTS; place++) {
                int message = due.parts.at(part, LATEST + place);
                isCalm = message == NONE || isCalmMessage(message);
            }
            return isCalm;
        }

        private boolean hasMarkAhead() {
            for (int mark = 0; mark < marks.size(); mark++) {
                if (marks.at(mark, MARKED) >= sent) {
                    return true;
                }
            }
            return false;
        }

        private boolean isCalmMessage(int message) {
            boolean isCalm = due.parts.at(message, KIND) == RESPONSE && due.parts.at(message, TTL) > 0;
            for (int service = 0; isCalm && service < services.size(); service++) {
                if (services.isNamedAs(service, due.parts, message) && comesTo(message, services.at(service, HOST))) {
                    boolean isProbing = services.at(service, STATE) == PROBING;
                    boolean isSmaller = services.compareData(service, due.parts, message) < 0;
                    isCalm = !isProbing && !(holdsName(service) && isSmaller);
                }
            }
            return isCalm;
        }

        /** Finds what hosts send back for a part: first for the parts in it, which have lower rows. */
        private void findReply(int part) {
            if (due.parts.at(part, REPLIED) == calm) {
                return;
            }
            due.wantReply(part, calm);
            for (int inner = 0; inner <= part; inner++) {
                if (due.isToReply(inner, calm)) {
                    if (due.isRun(inner)) {
                        replyToPieces(inner);
                    } else {
                        replyToMessage(inner);
                    }
                    due.putReply(inner, later.endRun(), calm);
                }
            }
        }

        private void replyToPieces(int run) {
            int first = due.parts.at(run, FIRST_PIECE);
            int behind = first + due.parts.at(run, PIECES);
            for (int piece = first; piece < behind; piece++) {
                later.addPiece(due.parts.at(due.pieces.at(piece, PART), REPLY));
            }
        }

        private void replyToMessage(int message) {
            for (int host = 0; host < hosts.size(); host++) {
                for (int service = 0; comesTo(message, host) && service < services.size(); service++) {
                    boolean replies = services.at(service, HOST) == host && holdsName(service)
                        && services.isNamedAs(service, due.parts, message)
                        && services.compareData(service, due.parts, message) > 0;
                    if (replies) {
                        int ttl = services.at(service, TTL);
                        later.addPiece(later.messageOf(services, service, RESPONSE, ttl));
                    }
                }
            }
        }

        private void sendReply(int part) {
            int reply = due.parts.at(part, REPLY);
            if (reply != NONE) {
                later.addItem(reply, intOf(sent));
                sent += later.parts.at(reply, LENGTH);
                for (int host = 0; host < hosts.size(); host++) {
                    hosts.increaseBy(host, SENT, later.parts.at(reply, SENT_BY + host));
                }
            }
        }

        /** Of several responses with the same name, the record of the latest one that comes to a host stays. */
        private void keepLatest(int part) {
            for (int host = 0; host < hosts.size(); host++) {
                boolean isKept = false;
                for (int place = 0; !isKept && place < MOST_HOSTS; place++) {
                    int message = due.parts.at(part, LATEST + place);
                    isKept = comesTo(message, host);
                    if (isKept) {
                        keepRecord(message, host);
                    }
                }
            }
        }

        // ---- messages that come one by one

        private void probeComes(int message, int host) {
            for (int service = 0; service < services.size(); service++) {
                if (services.at(service, HOST) == host && services.isNamedAs(service, due.parts, message)) {
                    boolean isProbing = services.at(service, STATE) == PROBING && services.at(service, PROBES) > 0;
                    if (holdsName(service)) {
                        sendFor(service, RESPONSE);
                    } else if (isProbing && services.compareData(service, due.parts, message) < 0) {
                        services.increase(service, LOST);
                        noteEvent(LOST_EVENT, service, services.at(service, NUMBER));
                        beginToProbe(service, time + 4);
                    }
                }
            }
        }

        private void responseComes(int message, int host) {
            if (due.parts.at(message, TTL) == 0) {
                endRecord(message, host);
                return;
            }
            for (int service = 0; service < services.size(); service++) {
                if (services.at(service, HOST) == host && services.isNamedAs(service, due.parts, message)) {
                    int order = services.compareData(service, due.parts, message);
                    if (services.at(service, STATE) == PROBING) {
                        renameService(service);
                        beginToProbe(service, time + 1);
                    } else if (holdsName(service) && order < 0) {
                        conflicts++;
                        services.increase(service, CONFLICTS);
                        noteEvent(CONFLICT_EVENT, service, services.at(service, NUMBER));
                        beginToProbe(service, time + 1);
                    } else if (holdsName(service) && order > 0) {
                        sendFor(service, RESPONSE);
                    }
                }
            }
            keepRecord(message, host);
        }

        private void queryComes(int message, int host) {
            int type = due.parts.at(message, TYPE);
            for (int service = 0; service < services.size(); service++) {
                boolean isAsked = services.at(service, HOST) == host && services.at(service, TYPE) == type;
                if (isAsked && holdsName(service)) {
                    if (isKnownAnswer(message, service)) {
                        noteEvent(SUPPRESSED_EVENT, service, services.at(service, NUMBER));
                    } else {
                        sendFor(service, RESPONSE);
                    }
                }
            }
        }

        private boolean isKnownAnswer(int message, int service) {
            int first = due.parts.at(message, FIRST_ANSWER);
            int behind = first + due.parts.at(message, ANSWERS);
            for (int answer = first; answer < behind; answer++) {
                boolean isNamed = answers.isNamedAs(answer, services, service);
                if (isNamed && answers.compareData(answer, services, service) == 0) {
                    return true;
                }
            }
            return false;
        }

        private void keepRecord(int message, int host) {
            Table cache = cacheOf(host);
            int place = cache.placeNamedAs(due.parts, message);
            if (place == NONE) {
                if (cache.size() >= MOST_RECORDS) {
                    cache.dropRow(firstToExpire(cache));
                }
                place = cache.addRow();
            }
            cache.copyShared(place, due.parts, message);
            cache.put(place, BORN, time);
            cache.put(place, AGE, 0);
        }

        private static int firstToExpire(Table cache) {
            int first = 0;
            for (int place = 1; place < cache.size(); place++) {
                if (cache.endOfRecord(place) < cache.endOfRecord(first)) {
                    first = place;
                }
            }
            return first;
        }

        private void endRecord(int message, int host) {
            Table cache = cacheOf(host);
            int place = cache.placeNamedAs(due.parts, message);
            boolean isSame = place != NONE && cache.compareData(place, due.parts, message) == 0;
            if (isSame && cache.endOfRecord(place) > time + 1) {
                cache.put(place, TTL, 1);
                cache.put(place, BORN, time);
            }
        }

        private void recordsExpire() {
            for (int host = 0; host < hosts.size(); host++) {
                Table cache = cacheOf(host);
                int place = 0;
                for (int left = cache.size(); left > 0; left--) {
                    if (cache.endOfRecord(place) <= time) {
                        noteEvent(EXPIRED_EVENT, host, cache.at(place, NUMBER));
                        cache.dropRow(place);
                    } else {
                        place++;
                    }
                }
            }
        }

        private void servicesAct() {
            for (int service = 0; service < services.size(); service++) {
                int alarm = services.at(service, ALARM);
                int state = services.at(service, STATE);
                boolean acts = isOn(services.at(service, HOST)) && alarm != NONE && alarm <= time;
                if (acts && state == PROBING && services.at(service, PROBES) < MOST_PROBES) {
                    sendFor(service, PROBE);
                    services.increase(service, PROBES);
                    services.put(service, ALARM, time + 2);
                } else if (acts && state == PROBING) {
                    announceService(service);
                } else if (acts && state == ANNOUNCING) {
                    sendFor(service, RESPONSE);
                    services.put(service, STATE, ESTABLISHED);
                    services.put(service, ALARM, NONE);
                    noteEvent(ESTABLISHED_EVENT, service, services.at(service, NUMBER));
                }
            }
        }

        private void announceService(int service) {
            sendFor(service, RESPONSE);
            services.put(service, STATE, ANNOUNCING);
            services.put(service, ALARM, time + 4);
        }

        private void browsersAct() {
            for (int host = 0; host < hosts.size(); host++) {
                for (int type = 0; type < types.size(); type++) {
                    if (isOn(host) && isBrowsing(host, type)) {
                        browserActs(host, type);
                    }
                }
            }
        }

        private void browserActs(int host, int type) {
            int browser = browserOf(host, type);
            boolean asks = browsers.at(browser, TIME) <= time;
            boolean refreshes = ageRecords(host, type) > 0 && !asks;
            if (asks || refreshes) {
                sendQuery(host, type);
                browsers.increase(browser, QUERIES);
            }
            if (asks) {
                int interval = browsers.at(browser, INTERVAL);
                browsers.put(browser, TIME, time + interval);
                browsers.put(browser, INTERVAL, Math.min(MOST_INTERVAL, interval * 2));
            }
            if (refreshes) {
                browsers.increase(browser, REFRESHES);
            }
        }

        /** Makes the records older that have to be refreshed; answers how many these are. */
        private int ageRecords(int host, int type) {
            Table cache = cacheOf(host);
            int found = 0;
            for (int place = 0; place < cache.size(); place++) {
                int age = cache.at(place, AGE);
                int refreshTime = cache.at(place, BORN) + cache.at(place, TTL) * (80 + 5 * age) / 100;
                if (cache.at(place, TYPE) == type && age < MOST_AGE && time >= refreshTime) {
                    cache.increase(place, AGE);
                    found++;
                }
            }
            return found;
        }

        // ---- what services do

        private void beginToProbe(int service, int alarm) {
            services.put(service, STATE, PROBING);
            services.put(service, PROBES, 0);
            services.put(service, ALARM, alarm);
            calm++;
        }

        private void renameService(int service) {
            boolean isFree = false;
            // Each of the others stands in the way of one NUMBER at most.
            for (int tries = 0; !isFree && tries <= services.size(); tries++) {
                int number = services.at(service, NUMBER);
                services.put(service, NUMBER, number == 0 ? 2 : number + 1);
                isFree = !hasTwin(service);
            }
            renamings++;
            services.increase(service, RENAMED);
            noteEvent(RENAMED_EVENT, service, services.at(service, NUMBER));
        }

        private boolean hasTwin(int service) {
            for (int other = 0; other < services.size(); other++) {
                boolean isOfHost = other != service && services.at(other, HOST) == services.at(service, HOST);
                boolean isNamed = services.isNamedAs(service, services, other);
                if (isOfHost && isNamed && services.at(other, STATE) != WITHDRAWN) {
                    return true;
                }
            }
            return false;
        }

        // ---- sending

        /** Sends a probe, a response or a goodbye for a service. */
        private void sendFor(int service, int what) {
            int number = intOf(sent);
            int kind = what == PROBE ? PROBE : RESPONSE;
            if (countMessage(services.at(service, HOST), kind)) {
                int ttl = what == PROBE ? NONE : what == GOODBYE ? 0 : services.at(service, TTL);
                later.addItem(later.messageOf(services, service, kind, ttl), number);
            }
        }

        private void sendQuery(int host, int type) {
            int number = intOf(sent);
            if (!countMessage(host, QUERY)) {
                return;
            }
            Table cache = cacheOf(host);
            int first = answers.size();
            for (int place = 0; place < cache.size(); place++) {
                boolean isFresh = cache.endOfRecord(place) - time > cache.at(place, TTL) / 2;
                if (isFresh && cache.at(place, TYPE) == type) {
                    answers.copyShared(answers.addRow(), cache, place);
                }
            }
            int message = later.addMessage(QUERY, host);
            later.parts.put(message, TYPE, type);
            later.parts.put(message, NUMBER, NONE);
            later.parts.put(message, PORT, NONE);
            later.parts.put(message, TTL, NONE);
            later.parts.put(message, BASE, NONE);
            later.parts.put(message, FIRST_ANSWER, first);
            later.parts.put(message, ANSWERS, answers.size() - first);
            later.addItem(message, number);
        }

        /** Counts a message as sent; answers whether it is on its way (it is lost if its number is marked). */
        private boolean countMessage(int host, int kind) {
            int number = intOf(sent);
            sent++;
            hosts.increase(host, SENT);
            if (marks.placeOf(MARKED, number) == NONE) {
                return true;
            }
            lost++;
            noteEvent(MESSAGE_LOST_EVENT, number, kind);
            return false;
        }

        private void noteEvent(int kind, int whose, int number) {
            int event = noted % MOST_EVENTS;
            events.put(event, SORT, kind);
            events.put(event, WHEN, time);
            events.put(event, WHOSE, whose);
            events.put(event, DETAIL, number);
            noted++;
        }

        // ---- changes

        int addService(int host, int type, int base, int port, int ttl) {
            int service = services.addRow();
            services.put(service, HOST, host);
            services.put(service, TYPE, type);
            services.put(service, BASE, base);
            services.put(service, PORT, port);
            services.put(service, TTL, ttl);
            beginToProbe(service, isOn(host) ? time : NONE);
            return service;
        }

        void withdrawService(int service) {
            if (holdsName(service) && isOn(services.at(service, HOST))) {
                sendFor(service, GOODBYE);
            }
            services.put(service, STATE, WITHDRAWN);
            services.put(service, ALARM, NONE);
        }

        void changePort(int service, int port) {
            services.put(service, PORT, port);
            if (holdsName(service) && isOn(services.at(service, HOST))) {
                announceService(service);
            }
        }

        void switchOff(int host, boolean isPolite) {
            for (int service = 0; service < services.size(); service++) {
                if (services.at(service, HOST) == host) {
                    if (isPolite && holdsName(service)) {
                        sendFor(service, GOODBYE);
                    }
                    services.put(service, ALARM, NONE);
                }
            }
            cacheOf(host).clear();
            for (int type = 0; type < types.size(); type++) {
                endBrowsing(host, type);
            }
            hosts.put(host, IS_OFF, 1);
        }

        void switchOn(int host) {
            hosts.put(host, IS_OFF, 0);
            for (int service = 0; service < services.size(); service++) {
                if (services.at(service, HOST) == host && services.at(service, STATE) != WITHDRAWN) {
                    beginToProbe(service, time);
                }
            }
        }

        void beginToBrowse(int host, int type) {
            int browser = browserOf(host, type);
            browsers.put(browser, TIME, time);
            browsers.put(browser, INTERVAL, FIRST_INTERVAL);
            browsers.put(browser, QUERIES, 0);
            browsers.put(browser, REFRESHES, 0);
            browsers.put(browser, IS_BROWSING, 1);
        }

        void endBrowsing(int host, int type) {
            browsers.put(browserOf(host, type), IS_BROWSING, 0);
        }

        void addMark(int message) {
            marks.put(marks.addRow(), MARKED, message);
        }
    }

    /** The states before the latest changes. */
    private static final class History {
        private final Link[] kept;
        private int next;
        private int size;

        History() {
            kept = new Link[MOST_UNDONE];
            for (int place = 0; place < kept.length; place++) {
                kept[place] = new Link();
            }
            next = 0;
            size = 0;
        }

        int size() {
            return size;
        }

        void forget() {
            size = 0;
        }

        void keep(Link state) {
            if (next >= 0 && next < kept.length && kept[next] != null) {
                kept[next].copyFrom(state);
            }
            next = next + 1 < MOST_UNDONE ? next + 1 : 0;
            size = Math.min(MOST_UNDONE, size + 1);
        }

        void takeBack(Link state) {
            next = next > 0 ? next - 1 : MOST_UNDONE - 1;
            size = Math.max(0, size - 1);
            if (next >= 0 && next < kept.length && kept[next] != null) {
                state.copyFrom(kept[next]);
            }
        }
    }

    /** Reads a text into a link, as far as its first error. */
    private static final class Reader {
        private static final int END = 0, WORD = 1, DIGITS = 2, SEMICOLON = 3, NO_TOKEN = 4;
        private static final int BAD_TOKEN = 1, BAD_NUMBER = 2, TAKEN = 3, UNKNOWN = 4, TOO_MANY = 5;

        private final Text text;
        private final Link link;
        // The present token: its kind, its first byte, the byte behind it, and its number or its short word.
        private int kind;
        private int start;
        private int end;
        private int value;
        private int code;
        private int position;

        Reader(Text text, Link link) {
            this.text = text;
            this.link = link;
            kind = END;
            start = 0;
            end = 0;
            value = NONE;
            code = 0;
            position = NONE;
        }

        /** Answers whether the text has no error; otherwise code and position tell the first one. */
        boolean readText() {
            link.reset();
            toNextToken();
            return readNames("hosts", link.hosts, MOST_HOSTS) && readNames("types", link.types, MOST_TYPES)
                && readServices() && readBrowsers() && readLosses() && (kind == END || fail(BAD_TOKEN));
        }

        private boolean readNames(String keyword, Table names, int most) {
            if (!isAtWord(keyword)) {
                return fail(BAD_TOKEN);
            }
            toNextToken();
            for (int number = 0; number <= most; number++) {
                if (number > 0 && kind == SEMICOLON) {
                    break;
                }
                if (!isAtName()) {
                    return fail(BAD_TOKEN);
                }
                if (names.placeOf(NAME, value) != NONE) {
                    return fail(TAKEN);
                }
                if (number == most) {
                    return fail(TOO_MANY);
                }
                names.put(names.addRow(), NAME, value);
                toNextToken();
            }
            return readSemicolon();
        }

        private boolean readServices() {
            for (int number = 0; number <= MOST_SERVICES && isAtWord("service"); number++) {
                if (number == MOST_SERVICES) {
                    return fail(TOO_MANY);
                }
                if (!readService()) {
                    return false;
                }
            }
            return true;
        }

        private boolean readService() {
            toNextToken();
            int host = readPlace(link.hosts);
            int type = host == NONE ? NONE : readPlace(link.types);
            if (type == NONE) {
                return false;
            }
            if (!isAtName()) {
                return fail(BAD_TOKEN);
            }
            if (link.isTaken(host, type, value)) {
                return fail(TAKEN);
            }
            int base = value;
            toNextToken();
            int port = readNumber(LEAST_PORT, MOST_PORT);
            int ttl = port == NONE ? NONE : readNumber(LEAST_TTL, MOST_TTL);
            if (ttl == NONE) {
                return false;
            }
            link.addService(host, type, base, port, ttl);
            return readSemicolon();
        }

        private boolean readBrowsers() {
            for (int number = 0; number <= MOST_HOSTS * MOST_TYPES && isAtWord("browse"); number++) {
                if (!readBrowser()) {
                    return false;
                }
            }
            return true;
        }

        private boolean readBrowser() {
            toNextToken();
            int host = readPlace(link.hosts);
            int typePosition = start;
            int type = host == NONE ? NONE : readPlace(link.types);
            if (type == NONE) {
                return false;
            }
            if (link.isBrowsing(host, type)) {
                return failAt(TAKEN, typePosition);
            }
            link.beginToBrowse(host, type);
            return readSemicolon();
        }

        private boolean readLosses() {
            for (int number = 0; number <= MOST_MARKS && isAtWord("lose"); number++) {
                if (!readLoss()) {
                    return false;
                }
            }
            return true;
        }

        private boolean readLoss() {
            toNextToken();
            for (int number = 0; number <= MOST_MARKS; number++) {
                if (number > 0 && kind == SEMICOLON) {
                    break;
                }
                if (kind != DIGITS) {
                    return fail(BAD_TOKEN);
                }
                if (value > MOST_MESSAGE) {
                    return fail(BAD_NUMBER);
                }
                if (link.marks.placeOf(MARKED, value) != NONE) {
                    return fail(TAKEN);
                }
                if (link.marks.size() >= MOST_MARKS) {
                    return fail(TOO_MANY);
                }
                link.addMark(value);
                toNextToken();
            }
            return readSemicolon();
        }

        private boolean readSemicolon() {
            if (kind != SEMICOLON) {
                return fail(BAD_TOKEN);
            }
            toNextToken();
            return true;
        }

        /** Reads a name that the table has; answers its row, or NONE if there is an error. */
        private int readPlace(Table names) {
            int place = isAtName() ? names.placeOf(NAME, value) : NONE;
            if (place == NONE) {
                fail(isAtName() ? UNKNOWN : BAD_TOKEN);
            } else {
                toNextToken();
            }
            return place;
        }

        /** Reads a number; answers NONE if there is an error. */
        private int readNumber(int least, int most) {
            int number = value;
            if (kind != DIGITS) {
                fail(BAD_TOKEN);
                return NONE;
            }
            if (number < least || number > most) {
                fail(BAD_NUMBER);
                return NONE;
            }
            toNextToken();
            return number;
        }

        private boolean isAtWord(String word) {
            return kind == WORD && text.isSame(start, end, word);
        }

        private boolean isAtName() {
            return kind == WORD && value != NONE;
        }

        private boolean fail(int errorCode) {
            return failAt(errorCode, start);
        }

        private boolean failAt(int errorCode, int errorPosition) {
            code = errorCode;
            position = errorPosition;
            return false;
        }

        private void toNextToken() {
            start = end;
            while (start < text.size() && isBlank(text.byteAt(start))) {
                start++;
            }
            int first = text.byteAt(start);
            if (first == NONE) {
                kind = END;
                end = start;
            } else if (isLetter(first)) {
                kind = WORD;
                end = endOfWord();
                value = text.wordIn(start, end);
            } else if (isDigit(first)) {
                end = endOfDigits();
                kind = end - start > 4 ? NO_TOKEN : DIGITS;
                value = kind == DIGITS ? valueOfDigits() : NONE;
            } else {
                kind = first == ';' ? SEMICOLON : NO_TOKEN;
                end = start + 1;
            }
        }

        private int endOfWord() {
            int place = start;
            while (place < text.size() && isLetter(text.byteAt(place))) {
                place++;
            }
            return place;
        }

        private int endOfDigits() {
            int place = start;
            while (place < text.size() && isDigit(text.byteAt(place))) {
                place++;
            }
            return place;
        }

        private int valueOfDigits() {
            int number = 0;
            for (int place = start; place < end; place++) {
                number = number * 10 + text.byteAt(place) - '0';
            }
            return number;
        }

        private static boolean isBlank(int value) {
            return value == 10 || value == 32;
        }

        private static boolean isLetter(int value) {
            return value >= 'a' && value <= 'z';
        }

        private static boolean isDigit(int value) {
            return value >= '0' && value <= '9';
        }
    }
}
