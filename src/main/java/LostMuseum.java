import java.util.NoSuchElementException;

/** A museum told as a text, its hours, and what can be asked of it. README.md says how to use it. */
public final class LostMuseum {
    public static final int NONE = -1;

    private static final int TAPE_BYTES = 600;
    private static final int LAW_BYTES = 150;
    private static final int WORK_BYTES = 150;
    private static final int WALK_BYTES = 60;

    private static final int MOST_CLAUSES = 60;
    private static final int MOST_ROOMS = 10;
    private static final int MOST_DOORS = 24;
    private static final int MOST_TOURS = 6;
    private static final int MOST_LINES = 12;
    private static final int MOST_SIGHTS = 8;
    private static final int MOST_NESTED = 6;
    private static final int ROOM_SETS = 1024;

    private static final int DAY = 24;
    private static final int LAST_DAY = 99;
    private static final int LAST_HOUR = 960;
    private static final int FAR_HOURS = 96;
    private static final int ALWAYS_ASLEEP = 16;

    private static final int MOST_WORKS = 16;
    private static final int MOST_IMAGES = 3;
    private static final int MOST_SEEDS = 40;
    private static final int WORKS_FULL = -20;
    private static final int BELOW_FAULTS = 10;

    private static final int CANT_STAND = 1;
    private static final int NO_SUCH_NUMBER = 2;
    private static final int TOO_MANY = 3;

    private final byte[] tape = new byte[TAPE_BYTES];
    private int tapeBytes = 0;
    private int faultPlace = NONE;
    private int notFound = 0;
    private int illegal = 0;
    private int refused = 0;

    private final Reader reader;
    private final Plan plan;
    private final Plan draft;
    private final Law rule;
    private final Work orders;
    private final Walk seen;
    private final Timeline past;
    private final Timeline[] images;
    private int imageCount = 0;

    private final State now;
    private final Hours hours;
    private final Graph graph;
    private final Parting parting;
    private final Sleeper sleeper;

    public LostMuseum() {
        reader = new Reader(tape);
        plan = new Plan();
        draft = new Plan();
        rule = new Law();
        orders = new Work();
        past = new Timeline();
        now = past.now;
        images = new Timeline[MOST_IMAGES];
        for (int i = 0; i < MOST_IMAGES; i++) {
            images[i] = new Timeline();
        }
        hours = new Hours(plan, now, rule);
        graph = new Graph(plan, now);
        seen = new Walk(plan, graph);
        parting = new Parting(plan, now);
        sleeper = new Sleeper(plan, now, hours);
    }

    public int feed(int a, int b, int c, int d, int e) {
        if (tapeBytes > TAPE_BYTES - 20) {
            return NONE;
        }
        putNumber(a);
        putNumber(b);
        putNumber(c);
        putNumber(d);
        putNumber(e);
        return tapeBytes;
    }

    public int museum(int n) throws IllegalArgumentException {
        needBytes(n, TAPE_BYTES);
        takeTape(n);
        if (!draft.read(reader)) {
            return faultOfText();
        }
        faultPlace = NONE;
        plan.copyFrom(draft);
        past.begin(plan);
        rule.clear();
        seen.clear();
        imageCount = 0;
        refused = 0;
        return plan.rooms;
    }

    public int law(int n) throws IllegalArgumentException {
        needBytes(n, LAW_BYTES);
        takeTape(n);
        if (!rule.read(reader)) {
            return faultOfText();
        }
        faultPlace = NONE;
        return 1;
    }

    public int work(int n) throws IllegalArgumentException {
        needBytes(n, WORK_BYTES);
        takeTape(n);
        if (past.works >= MOST_WORKS) {
            faultPlace = NONE;
            return WORKS_FULL;
        }
        if (!orders.read(reader, plan)) {
            return faultOfText();
        }
        faultPlace = NONE;
        past.keep();
        orders.run(plan, now, hours);
        refused = orders.refusedSteps;
        return orders.doneSteps;
    }

    public int walk(int n) throws IllegalArgumentException {
        needBytes(n, WALK_BYTES);
        takeTape(n);
        if (!seen.read(reader)) {
            return faultOfText();
        }
        faultPlace = NONE;
        return seen.length;
    }

    public int fault() {
        return faultPlace;
    }

    public int undo() {
        if (past.works <= 0) {
            return NONE;
        }
        past.takeBack();
        refused = 0;
        return past.works;
    }

    public int told(int what) throws IllegalArgumentException {
        needWithin(what, 0, 9);
        switch (what) {
            case 0:
                return plan.rooms;
            case 1:
                return plan.doors;
            case 2:
                return plan.tours;
            case 3:
                return now.hour;
            case 4:
                return Integer.bitCount(hours.openDoors(now.hour));
            case 5:
                return Integer.bitCount(now.barred);
            case 6:
                return now.usedInAll();
            case 7:
                return now.met;
            case 8:
                return seen.length;
            default:
                return refused;
        }
    }

    public int room(int room, int what) throws NoSuchElementException, IllegalArgumentException {
        needRoom(room);
        needWithin(what, 0, 5);
        switch (what) {
            case 0:
                return plan.sees[room];
            case 1:
                return (plan.exits >> room) & 1;
            case 2:
                return plan.asleep[room];
            case 3:
                return now.toursIn(room, plan.tours);
            case 4:
                return Integer.bitCount(hours.openDoors(now.hour) & plan.leaving[room]);
            default:
                return Integer.bitCount(hours.openDoors(now.hour) & plan.entering[room]);
        }
    }

    public int door(int door, int what) throws NoSuchElementException, IllegalArgumentException {
        needDoor(door);
        needWithin(what, 0, 6);
        switch (what) {
            case 0:
                return plan.from[door];
            case 1:
                return plan.to[door];
            case 2:
                return plan.opens[door];
            case 3:
                return plan.shuts[door];
            case 4:
                return (now.barred >> door) & 1;
            case 5:
                return hours.isOpen(door, now.hour) ? 1 : 0;
            default:
                return now.used[door];
        }
    }

    public int tour(int tour) throws NoSuchElementException {
        if (tour < 0 || tour >= plan.tours) {
            notFound++;
            throw new NoSuchElementException("no such tour");
        }
        return now.stands[tour];
    }

    public boolean open(int door, int hour, int day) throws NoSuchElementException, IllegalArgumentException {
        needDoor(door);
        needWithin(hour, 0, DAY - 1);
        needWithin(day, 0, LAST_DAY);
        return hours.isOpen(door, day * DAY + hour);
    }

    public int fits() {
        return seen.standing();
    }

    public int knows() {
        return seen.roomsToKnow();
    }

    public int slips(int what) throws IllegalArgumentException {
        needWithin(what, 0, 1);
        int fewest = seen.fewestWrong();
        return what == 0 ? fewest : seen.firstWrong(fewest);
    }

    public boolean ends(int room) throws NoSuchElementException {
        needRoom(room);
        return ((seen.standing() >> room) & 1) != 0;
    }

    public int soon(int room, int other) throws NoSuchElementException {
        needRoom(room);
        needRoom(other);
        return hours.soonest(1 << room, 1 << other);
    }

    public int within(int room, int n) throws NoSuchElementException, IllegalArgumentException {
        needRoom(room);
        needWithin(n, 0, FAR_HOURS);
        return hours.reachedIn(1 << room, n);
    }

    public int out(int room) throws NoSuchElementException {
        needRoom(room);
        return hours.soonest(1 << room, plan.exits);
    }

    public int string(int room) throws NoSuchElementException {
        needRoom(room);
        graph.renew();
        return graph.fewestDoors(plan.exits, 1 << room);
    }

    public int longest(int what) throws IllegalArgumentException {
        needWithin(what, 0, 1);
        graph.renew();
        graph.unrollFrom(plan.exits);
        return what == 0 ? graph.many : graph.where;
    }

    public int lost(int what) throws IllegalArgumentException {
        needWithin(what, 0, 2);
        graph.renew();
        int lostRooms = plan.allRooms() & ~graph.reachFrom(plan.exits);
        int caughtRooms = plan.allRooms() & ~graph.reachTo(plan.exits);
        if (what == 0) {
            return lostRooms;
        }
        return what == 1 ? caughtRooms : lostRooms & caughtRooms;
    }

    public int cuts() {
        graph.renew();
        return graph.newDoorsToJoinAll();
    }

    public int wing(int room) throws NoSuchElementException {
        needRoom(room);
        graph.renew();
        return graph.wingOf(1 << room);
    }

    public int round(int room) throws NoSuchElementException {
        needRoom(room);
        graph.renew();
        graph.goRound(room);
        return graph.many;
    }

    public int last(int room) throws NoSuchElementException {
        needRoom(room);
        graph.renew();
        graph.goRound(room);
        return graph.where;
    }

    public int meet(int room, int other, int what) throws NoSuchElementException, IllegalArgumentException {
        needRoom(room);
        needRoom(other);
        needWithin(what, 0, 1);
        graph.renew();
        graph.bringTogether(1 << room, 1 << other);
        return what == 0 ? graph.many : graph.where;
    }

    public int parted(int room, int other, int what) throws NoSuchElementException, IllegalArgumentException {
        needRoom(room);
        needRoom(other);
        needWithin(what, 0, 1);
        if (room == other) {
            return what == 0 ? NONE : 0;
        }
        return what == 0 ? parting.fewest(room, other) : parting.firstDoors(room, other);
    }

    public long quiet(int room, int other, int part) throws NoSuchElementException, IllegalArgumentException {
        needRoom(room);
        needRoom(other);
        needWithin(part, 0, 1);
        long above = graph.likeliest(room, other);
        return part == 0 ? graph.aboveInLeastTerms(above) : graph.belowInLeastTerms(above);
    }

    public int way(int room, int other) throws NoSuchElementException {
        needRoom(room);
        needRoom(other);
        graph.renew();
        return graph.fewestDoors(1 << room, 1 << other);
    }

    public int next(int room, int other) throws NoSuchElementException {
        needRoom(room);
        needRoom(other);
        graph.renew();
        return graph.firstDoor(room, other);
    }

    public int loop(int room) throws NoSuchElementException {
        needRoom(room);
        graph.renew();
        int behind = graph.fewestDoors(graph.oneAhead(1 << room), 1 << room);
        return behind == NONE ? NONE : behind + 1;
    }

    public int closed(int hour, int what) throws IllegalArgumentException {
        needWithin(hour, 0, DAY - 1);
        needWithin(what, 0, 1);
        int open = hours.openDoors(now.hour - now.hour % DAY + hour);
        int rooms = 0;
        for (int r = 0; r < plan.rooms; r++) {
            int doors = what == 0 ? plan.leaving[r] : plan.entering[r];
            if ((doors & open) == 0) {
                rooms |= 1 << r;
            }
        }
        return rooms;
    }

    public int crowded(int what) throws IllegalArgumentException {
        needWithin(what, 0, 1);
        int fullest = NONE;
        int most = 0;
        for (int r = 0; r < plan.rooms; r++) {
            int there = now.toursIn(r, plan.tours);
            if (there > most) {
                most = there;
                fullest = r;
            }
        }
        if (fullest == NONE) {
            return NONE;
        }
        return what == 0 ? fullest : most;
    }

    public int worn(int what) throws IllegalArgumentException {
        needWithin(what, 0, 1);
        int oftenest = NONE;
        int most = 0;
        for (int d = 0; d < plan.doors; d++) {
            if (now.used[d] > most) {
                most = now.used[d];
                oftenest = d;
            }
        }
        if (oftenest == NONE) {
            return NONE;
        }
        return what == 0 ? oftenest : most;
    }

    public int sleepwalk(int seed, int room, int hours, int what)
            throws NoSuchElementException, IllegalArgumentException {
        needRoom(room);
        needWithin(hours, 0, FAR_HOURS);
        needWithin(what, 0, 2);
        sleeper.lieDown();
        sleeper.sleep(seed, room, hours);
        switch (what) {
            case 0:
                return sleeper.stands;
            case 1:
                return Integer.bitCount(sleeper.been);
            default:
                return sleeper.passed;
        }
    }

    public int span(int seed, int many, int room, int hours, int other, int what)
            throws NoSuchElementException, IllegalArgumentException {
        needRoom(room);
        needRoom(other);
        needWithin(many, 1, MOST_SEEDS);
        needWithin(hours, 0, FAR_HOURS);
        needWithin(what, 0, 1);
        sleeper.lieDown();
        int found = 0;
        for (int i = 0; i < many; i++) {
            sleeper.sleep(seed + i, room, hours);
            int rooms = what == 0 ? 1 << sleeper.stands : sleeper.been;
            found += (rooms >> other) & 1;
        }
        return found;
    }

    public int image() {
        if (imageCount < 0 || imageCount >= MOST_IMAGES) {
            return NONE;
        }
        images[imageCount].copyFrom(past);
        imageCount++;
        return imageCount;
    }

    public int restore() {
        if (imageCount <= 0 || imageCount > MOST_IMAGES) {
            return NONE;
        }
        imageCount--;
        past.copyFrom(images[imageCount]);
        refused = 0;
        return imageCount;
    }

    public int status(int what) {
        if (what == 0) {
            return notFound;
        }
        return what == 1 ? illegal : NONE;
    }

    public int count(int what) {
        switch (what) {
            case 0:
                return imageCount;
            case 1:
                return tapeBytes;
            case 2:
                return past.works;
            default:
                return NONE;
        }
    }

    private void putNumber(int number) {
        for (int shift = 24; shift >= 0 && tapeBytes < TAPE_BYTES; shift -= 8) {
            tape[tapeBytes] = (byte) (number >>> shift);
            tapeBytes++;
        }
    }

    private void takeTape(int n) {
        reader.begin(n);
        tapeBytes = 0;
    }

    private int faultOfText() {
        faultPlace = reader.faultPlace;
        return reader.faultKind - BELOW_FAULTS;
    }

    private void needBytes(int n, int most) {
        needWithin(n, 0, tapeBytes < most ? tapeBytes : most);
    }

    private void needWithin(int value, int least, int most) {
        if (value < least || value > most) {
            illegal++;
            throw new IllegalArgumentException("out of its range");
        }
    }

    private void needRoom(int room) {
        if (room < 0 || room >= plan.rooms) {
            notFound++;
            throw new NoSuchElementException("no such room");
        }
    }

    private void needDoor(int door) {
        if (door < 0 || door >= plan.doors) {
            notFound++;
            throw new NoSuchElementException("no such door");
        }
    }

    /** The number of the lowest room or door of a set that is not empty. */
    private static int lowest(int set) {
        return Integer.bitCount((set & -set) - 1);
    }

    /** Reads a text from the left, token by token, and keeps its first fault. */
    private static final class Reader {
        /** Above all numbers that any text may hold, and far below where int wraps. */
        private static final int HUGE = 100000;

        private final byte[] text;
        private int length = 0;
        private int at = 0;
        private int wordEnd = 0;
        int start = 0;
        int value = 0;
        int faultKind = 0;
        int faultPlace = NONE;

        Reader(byte[] text) {
            this.text = text;
        }

        void begin(int n) {
            length = n < 0 ? 0 : Math.min(n, text.length);
            at = 0;
            wordEnd = 0;
            start = 0;
            value = 0;
            faultKind = 0;
            faultPlace = NONE;
        }

        /** Always false, so that a reading method can end with it. */
        boolean fail(int kind, int place) {
            faultKind = kind;
            faultPlace = place;
            return false;
        }

        /** The byte at which the next token begins; NONE at the end. */
        int peek() {
            while (at < length && text[at] == ' ') {
                at++;
            }
            start = at;
            return at < length ? text[at] & 255 : NONE;
        }

        boolean atEnd() {
            return peek() == NONE;
        }

        boolean takes(int sign) {
            if (peek() != sign) {
                return false;
            }
            at++;
            return true;
        }

        boolean needs(int sign) {
            if (peek() != sign) {
                return fail(CANT_STAND, start);
            }
            at++;
            return true;
        }

        boolean needsEnd() {
            return peek() == NONE || fail(CANT_STAND, start);
        }

        boolean needsNumber(int most) {
            if (!isDigit(peek())) {
                return fail(CANT_STAND, start);
            }
            value = 0;
            while (at < length && isDigit(byteAt(at))) {
                value = Math.min(HUGE, value * 10 + byteAt(at) - '0');
                at++;
            }
            return value <= most || fail(NO_SUCH_NUMBER, start);
        }

        boolean needsWord() {
            if (!isLetter(peek())) {
                return fail(CANT_STAND, start);
            }
            while (at < length && isLetter(byteAt(at))) {
                at++;
            }
            wordEnd = at;
            return true;
        }

        boolean isWord(String word) {
            if (wordEnd - start != word.length()) {
                return false;
            }
            for (int i = 0; i < word.length(); i++) {
                if (byteAt(start + i) != word.charAt(i)) {
                    return false;
                }
            }
            return true;
        }

        private int byteAt(int place) {
            return place >= 0 && place < length ? text[place] & 255 : NONE;
        }

        static boolean isDigit(int sign) {
            return sign >= '0' && sign <= '9';
        }

        private static boolean isLetter(int sign) {
            return sign >= 'a' && sign <= 'z';
        }
    }

    /** What a MUSEUM's text tells. */
    private static final class Plan {
        int rooms = 0;
        int doors = 0;
        int tours = 0;
        int exits = 0;
        final int[] sees = new int[MOST_ROOMS];
        final int[] asleep = new int[MOST_ROOMS];
        final int[] leaving = new int[MOST_ROOMS];
        final int[] entering = new int[MOST_ROOMS];
        final int[] seeing = new int[MOST_SIGHTS];
        final int[] from = new int[MOST_DOORS];
        final int[] to = new int[MOST_DOORS];
        final int[] opens = new int[MOST_DOORS];
        final int[] shuts = new int[MOST_DOORS];
        final int[] stands = new int[MOST_TOURS];

        int allRooms() {
            return (1 << rooms) - 1;
        }

        int allDoors() {
            return (1 << doors) - 1;
        }

        void copyFrom(Plan other) {
            rooms = other.rooms;
            doors = other.doors;
            tours = other.tours;
            exits = other.exits;
            System.arraycopy(other.sees, 0, sees, 0, MOST_ROOMS);
            System.arraycopy(other.asleep, 0, asleep, 0, MOST_ROOMS);
            System.arraycopy(other.leaving, 0, leaving, 0, MOST_ROOMS);
            System.arraycopy(other.entering, 0, entering, 0, MOST_ROOMS);
            System.arraycopy(other.seeing, 0, seeing, 0, MOST_SIGHTS);
            System.arraycopy(other.from, 0, from, 0, MOST_DOORS);
            System.arraycopy(other.to, 0, to, 0, MOST_DOORS);
            System.arraycopy(other.opens, 0, opens, 0, MOST_DOORS);
            System.arraycopy(other.shuts, 0, shuts, 0, MOST_DOORS);
            System.arraycopy(other.stands, 0, stands, 0, MOST_TOURS);
        }

        boolean read(Reader r) {
            clear();
            for (int clauses = 0; clauses <= MOST_CLAUSES; clauses++) {
                if (r.atEnd()) {
                    return true;
                }
                if (!readClause(r, clauses == MOST_CLAUSES) || !r.needs(';')) {
                    return false;
                }
            }
            return r.fail(TOO_MANY, r.start);
        }

        private void clear() {
            rooms = 0;
            doors = 0;
            tours = 0;
            exits = 0;
            for (int i = 0; i < MOST_SIGHTS; i++) {
                seeing[i] = 0;
            }
        }

        private boolean readClause(Reader r, boolean full) {
            if (!r.needsWord()) {
                return false;
            }
            if (r.isWord("room")) {
                return full || rooms >= MOST_ROOMS ? r.fail(TOO_MANY, r.start) : readRoom(r);
            }
            if (r.isWord("door")) {
                return full || doors >= MOST_DOORS ? r.fail(TOO_MANY, r.start) : readDoor(r);
            }
            if (r.isWord("exit")) {
                return full ? r.fail(TOO_MANY, r.start) : readExit(r);
            }
            if (r.isWord("tour")) {
                return full || tours >= MOST_TOURS ? r.fail(TOO_MANY, r.start) : readTour(r);
            }
            if (r.isWord("warder")) {
                return full ? r.fail(TOO_MANY, r.start) : readWarder(r);
            }
            return r.fail(CANT_STAND, r.start);
        }

        private boolean readRoom(Reader r) {
            if (!r.needsNumber(MOST_SIGHTS - 1)) {
                return false;
            }
            sees[rooms] = r.value;
            asleep[rooms] = ALWAYS_ASLEEP;
            leaving[rooms] = 0;
            entering[rooms] = 0;
            seeing[r.value] |= 1 << rooms;
            rooms++;
            return true;
        }

        private boolean readDoor(Reader r) {
            if (!r.needsNumber(rooms - 1)) {
                return false;
            }
            int a = r.value;
            if (!r.needsNumber(rooms - 1)) {
                return false;
            }
            int b = r.value;
            if (a == b) {
                return r.fail(NO_SUCH_NUMBER, r.start);
            }
            if (!r.needsNumber(DAY - 1)) {
                return false;
            }
            opens[doors] = r.value;
            if (!r.needsNumber(DAY - 1)) {
                return false;
            }
            shuts[doors] = r.value;
            if (shuts[doors] < opens[doors]) {
                return r.fail(NO_SUCH_NUMBER, r.start);
            }
            from[doors] = a;
            to[doors] = b;
            leaving[a] |= 1 << doors;
            entering[b] |= 1 << doors;
            doors++;
            return true;
        }

        private boolean readExit(Reader r) {
            if (!r.needsNumber(rooms - 1)) {
                return false;
            }
            exits |= 1 << r.value;
            return true;
        }

        private boolean readTour(Reader r) {
            if (!r.needsNumber(rooms - 1)) {
                return false;
            }
            stands[tours] = r.value;
            tours++;
            return true;
        }

        private boolean readWarder(Reader r) {
            if (!r.needsNumber(rooms - 1)) {
                return false;
            }
            int a = r.value;
            if (!r.needsNumber(ALWAYS_ASLEEP)) {
                return false;
            }
            asleep[a] = r.value;
            return true;
        }
    }

    /** A LAW as a row of codes, what is worked on ahead of what is done with it. */
    private static final class Law {
        private static final int PLANNED = -1;
        private static final int HOUR = -2;
        private static final int DAYS = -3;
        private static final int DOOR = -4;
        private static final int FROM = -5;
        private static final int TO = -6;
        private static final int SEES = -7;
        private static final int USED = -8;
        private static final int LEAST = -9;
        private static final int MOST = -10;
        private static final int ADD = -11;
        private static final int TAKE = -12;
        private static final int TIMES = -13;
        private static final int OVER = -14;
        private static final int REST = -15;
        private static final int NO_CODE = -16;

        private static final int HIGHEST = 999;
        /** Six that are open hold three values each at most; the rest is room to spare. */
        private static final int STACK = 48;

        private final int[] codes = new int[LAW_BYTES];
        private final int[] drafted = new int[LAW_BYTES];
        private final int[] stack = new int[STACK];
        private int length = 0;
        private int draftLength = 0;

        Law() {
            clear();
        }

        void clear() {
            codes[0] = PLANNED;
            length = 1;
        }

        boolean read(Reader r) {
            draftLength = 0;
            if (!readSum(r, 0) || !r.needsEnd()) {
                return false;
            }
            System.arraycopy(drafted, 0, codes, 0, draftLength);
            length = draftLength;
            return true;
        }

        private void put(int code) {
            if (draftLength < LAW_BYTES) {
                drafted[draftLength] = code;
                draftLength++;
            }
        }

        private boolean readSum(Reader r, int nested) {
            if (!readProduct(r, nested)) {
                return false;
            }
            for (int i = 0; i < LAW_BYTES; i++) {
                int code = r.takes('+') ? ADD : r.takes('-') ? TAKE : NO_CODE;
                if (code == NO_CODE) {
                    return true;
                }
                if (!readProduct(r, nested)) {
                    return false;
                }
                put(code);
            }
            return true;
        }

        private boolean readProduct(Reader r, int nested) {
            if (!readUnit(r, nested)) {
                return false;
            }
            for (int i = 0; i < LAW_BYTES; i++) {
                int code = r.takes('*') ? TIMES : r.takes('/') ? OVER : r.takes('%') ? REST : NO_CODE;
                if (code == NO_CODE) {
                    return true;
                }
                if (!readUnit(r, nested)) {
                    return false;
                }
                put(code);
            }
            return true;
        }

        private boolean readUnit(Reader r, int nested) {
            if (Reader.isDigit(r.peek())) {
                if (!r.needsNumber(HIGHEST)) {
                    return false;
                }
                put(r.value);
                return true;
            }
            if (r.peek() == '(') {
                return readBracket(r, nested);
            }
            if (!r.needsWord()) {
                return false;
            }
            int code = codeOfWord(r);
            if (code == NO_CODE) {
                return r.fail(CANT_STAND, r.start);
            }
            if (code == LEAST || code == MOST) {
                return readPair(r, nested, code);
            }
            put(code);
            return true;
        }

        private boolean readBracket(Reader r, int nested) {
            if (nested >= MOST_NESTED) {
                return r.fail(TOO_MANY, r.start);
            }
            return r.needs('(') && readSum(r, nested + 1) && r.needs(')');
        }

        private boolean readPair(Reader r, int nested, int code) {
            if (nested >= MOST_NESTED) {
                return r.fail(TOO_MANY, r.start);
            }
            if (!r.needs('[') || !readSum(r, nested + 1)) {
                return false;
            }
            if (!r.needs(',') || !readSum(r, nested + 1) || !r.needs(']')) {
                return false;
            }
            put(code);
            return true;
        }

        private static int codeOfWord(Reader r) {
            if (r.isWord("plan")) {
                return PLANNED;
            }
            if (r.isWord("hour")) {
                return HOUR;
            }
            if (r.isWord("day")) {
                return DAYS;
            }
            if (r.isWord("door")) {
                return DOOR;
            }
            if (r.isWord("from")) {
                return FROM;
            }
            if (r.isWord("to")) {
                return TO;
            }
            if (r.isWord("sees")) {
                return SEES;
            }
            if (r.isWord("used")) {
                return USED;
            }
            if (r.isWord("least")) {
                return LEAST;
            }
            return r.isWord("most") ? MOST : NO_CODE;
        }

        int valueFor(Plan plan, State state, int door, int hour) {
            int top = 0;
            for (int i = 0; i < length; i++) {
                int code = codes[i];
                if (code > LEAST) {
                    if (top < STACK) {
                        stack[top] = code >= 0 ? code : fact(code, plan, state, door, hour);
                        top++;
                    }
                } else if (top >= 2) {
                    top--;
                    stack[top - 1] = join(code, stack[top - 1], stack[top]);
                }
            }
            return stack[0];
        }

        private static int fact(int code, Plan plan, State state, int door, int hour) {
            int ofDay = hour % DAY;
            switch (code) {
                case PLANNED:
                    return ofDay >= plan.opens[door] && ofDay <= plan.shuts[door] ? 1 : 0;
                case HOUR:
                    return ofDay;
                case DAYS:
                    return hour / DAY;
                case DOOR:
                    return door;
                case FROM:
                    return plan.from[door];
                case TO:
                    return plan.to[door];
                case SEES:
                    return plan.sees[plan.to[door]];
                default:
                    return state.used[door];
            }
        }

        private static int join(int code, int left, int right) {
            switch (code) {
                case LEAST:
                    return Math.min(left, right);
                case MOST:
                    return Math.max(left, right);
                case ADD:
                    return left + right;
                case TAKE:
                    return left - right;
                case TIMES:
                    return left * right;
                case OVER:
                    return right == 0 ? 0 : left / right;
                default:
                    return right == 0 ? 0 : left % right;
            }
        }
    }

    /** WORK as rows of steps; a loop's head knows where its end is, and the end its head. */
    private static final class Work {
        private static final int GO = 1;
        private static final int BAR = 2;
        private static final int UNBAR = 3;
        private static final int HOUR = 4;
        private static final int AGAIN = 5;
        private static final int BACK = 6;

        private static final int MOST_TIMES = 30;
        private static final int MOST_STEPS = 200;
        /** Each of the steps may be a loop that comes to its end as often as loops go. */
        private static final int MOST_TURNS = MOST_STEPS * (MOST_TIMES + 1);

        private final int[] kinds = new int[WORK_BYTES];
        private final int[] firsts = new int[WORK_BYTES];
        private final int[] seconds = new int[WORK_BYTES];
        private final int[] left = new int[WORK_BYTES];
        private int length = 0;
        int doneSteps = 0;
        int refusedSteps = 0;

        boolean read(Reader r, Plan plan) {
            length = 0;
            return readSteps(r, plan, 0);
        }

        private void put(int kind, int first, int second) {
            if (length < WORK_BYTES) {
                kinds[length] = kind;
                firsts[length] = first;
                seconds[length] = second;
                length++;
            }
        }

        private boolean readSteps(Reader r, Plan plan, int nested) {
            for (int i = 0; i < WORK_BYTES; i++) {
                if (nested == 0 ? r.atEnd() : r.takes(']')) {
                    return true;
                }
                if (!readStep(r, plan, nested) || !r.needs(';')) {
                    return false;
                }
            }
            // Every step takes two bytes at least, so only the end can stand here.
            return nested == 0 ? r.needsEnd() : r.needs(']');
        }

        private boolean readStep(Reader r, Plan plan, int nested) {
            if (!r.needsWord()) {
                return false;
            }
            if (r.isWord("go")) {
                return readGo(r, plan);
            }
            if (r.isWord("bar")) {
                return readDoorStep(r, plan, BAR);
            }
            if (r.isWord("unbar")) {
                return readDoorStep(r, plan, UNBAR);
            }
            if (r.isWord("hour")) {
                put(HOUR, 0, 0);
                return true;
            }
            if (r.isWord("again")) {
                return nested >= MOST_NESTED ? r.fail(TOO_MANY, r.start) : readAgain(r, plan, nested);
            }
            return r.fail(CANT_STAND, r.start);
        }

        private boolean readGo(Reader r, Plan plan) {
            if (!r.needsNumber(plan.tours - 1)) {
                return false;
            }
            int tour = r.value;
            if (!r.needsNumber(plan.doors - 1)) {
                return false;
            }
            put(GO, tour, r.value);
            return true;
        }

        private boolean readDoorStep(Reader r, Plan plan, int kind) {
            if (!r.needsNumber(plan.doors - 1)) {
                return false;
            }
            put(kind, r.value, 0);
            return true;
        }

        private boolean readAgain(Reader r, Plan plan, int nested) {
            if (!r.needsNumber(MOST_TIMES) || length >= WORK_BYTES) {
                return false;
            }
            int head = length;
            put(AGAIN, r.value, 0);
            if (!r.needs('[') || !readSteps(r, plan, nested + 1)) {
                return false;
            }
            put(BACK, head, 0);
            seconds[head] = length;
            return true;
        }

        void run(Plan plan, State state, Hours hours) {
            doneSteps = 0;
            refusedSteps = 0;
            int begun = 0;
            int at = 0;
            for (int turn = 0; turn < MOST_TURNS; turn++) {
                if (begun >= MOST_STEPS || at < 0 || at >= length) {
                    return;
                }
                if (kinds[at] == BACK) {
                    at = turnBack(at);
                    continue;
                }
                begun++;
                if (kinds[at] == AGAIN) {
                    left[at] = firsts[at];
                    at = firsts[at] > 0 ? at + 1 : seconds[at];
                    continue;
                }
                if (isDone(at, plan, state, hours)) {
                    doneSteps++;
                } else {
                    refusedSteps++;
                }
                at++;
            }
        }

        private int turnBack(int end) {
            int head = firsts[end];
            left[head]--;
            return left[head] > 0 ? head + 1 : end + 1;
        }

        private boolean isDone(int at, Plan plan, State state, Hours hours) {
            int first = firsts[at];
            switch (kinds[at]) {
                case GO:
                    return goes(first, seconds[at], plan, state, hours);
                case BAR:
                    return state.setsBar(first, true);
                case UNBAR:
                    return state.setsBar(first, false);
                default:
                    return state.waits();
            }
        }

        private static boolean goes(int tour, int door, Plan plan, State state, Hours hours) {
            if (state.stands[tour] != plan.from[door] || !hours.isOpen(door, state.hour)) {
                return false;
            }
            // Counted while the tour is still in the room it comes from, so without it.
            state.met += state.toursIn(plan.to[door], plan.tours);
            state.stands[tour] = plan.to[door];
            state.used[door]++;
            return true;
        }
    }

    /** All that WORK changes. */
    private static final class State {
        int hour = 0;
        int met = 0;
        int barred = 0;
        final int[] used = new int[MOST_DOORS];
        final int[] stands = new int[MOST_TOURS];

        void begin(Plan plan) {
            hour = 0;
            met = 0;
            barred = 0;
            for (int d = 0; d < MOST_DOORS; d++) {
                used[d] = 0;
            }
            System.arraycopy(plan.stands, 0, stands, 0, MOST_TOURS);
        }

        void copyFrom(State other) {
            hour = other.hour;
            met = other.met;
            barred = other.barred;
            System.arraycopy(other.used, 0, used, 0, MOST_DOORS);
            System.arraycopy(other.stands, 0, stands, 0, MOST_TOURS);
        }

        boolean setsBar(int door, boolean bar) {
            boolean isBarred = ((barred >> door) & 1) != 0;
            if (isBarred == bar) {
                return false;
            }
            barred ^= 1 << door;
            return true;
        }

        boolean waits() {
            if (hour >= LAST_HOUR) {
                return false;
            }
            hour++;
            return true;
        }

        int usedInAll() {
            int sum = 0;
            for (int d = 0; d < MOST_DOORS; d++) {
                sum += used[d];
            }
            return sum;
        }

        int toursIn(int room, int tours) {
            int there = 0;
            for (int t = 0; t < tours && t < MOST_TOURS; t++) {
                if (stands[t] == room) {
                    there++;
                }
            }
            return there;
        }
    }

    /** How all stands now, and how it stood ahead of each WORK that can be undone. */
    private static final class Timeline {
        final State now = new State();
        private final State[] before = new State[MOST_WORKS];
        int works = 0;

        Timeline() {
            for (int i = 0; i < MOST_WORKS; i++) {
                before[i] = new State();
            }
        }

        void begin(Plan plan) {
            now.begin(plan);
            works = 0;
        }

        void keep() {
            if (works < MOST_WORKS) {
                before[works].copyFrom(now);
                works++;
            }
        }

        void takeBack() {
            if (works > 0) {
                works--;
                now.copyFrom(before[works]);
            }
        }

        void copyFrom(Timeline other) {
            now.copyFrom(other.now);
            works = Math.min(other.works, MOST_WORKS);
            for (int i = 0; i < works; i++) {
                before[i].copyFrom(other.before[i]);
            }
        }
    }

    /** When doors are open, and where one can be by HOURS. */
    private static final class Hours {
        private final Plan plan;
        private final State state;
        private final Law law;

        Hours(Plan plan, State state, Law law) {
            this.plan = plan;
            this.state = state;
            this.law = law;
        }

        boolean isOpen(int door, int hour) {
            return ((state.barred >> door) & 1) == 0 && law.valueFor(plan, state, door, hour) > 0;
        }

        int openDoors(int hour) {
            int open = 0;
            for (int d = 0; d < plan.doors; d++) {
                if (isOpen(d, hour)) {
                    open |= 1 << d;
                }
            }
            return open;
        }

        int soonest(int start, int goal) {
            int rooms = start;
            for (int gone = 0; gone <= FAR_HOURS; gone++) {
                if ((rooms & goal) != 0) {
                    return gone;
                }
                rooms |= comeTo(rooms, state.hour + gone);
            }
            return NONE;
        }

        int reachedIn(int start, int many) {
            int rooms = start;
            for (int gone = 0; gone < many; gone++) {
                rooms |= comeTo(rooms, state.hour + gone);
            }
            return rooms;
        }

        /** Rooms to which one comes anew from some in an hour; laws are only asked where that matters. */
        private int comeTo(int rooms, int hour) {
            int anew = 0;
            for (int d = 0; d < plan.doors; d++) {
                boolean leads = ((rooms >> plan.from[d]) & 1) != 0;
                boolean isNew = (((rooms | anew) >> plan.to[d]) & 1) == 0;
                if (leads && isNew && isOpen(d, hour)) {
                    anew |= 1 << plan.to[d];
                }
            }
            return anew;
        }
    }

    /** Rooms and doors by PLAN. Sets of rooms are bits. An answer of two parts is left in many and where. */
    private static final class Graph {
        /** The likelihood 1: sixteen to the power of the most rooms one comes to, so that all parts are whole. */
        private static final long SURE = 1L << 36;
        /** No way of fewest doors to all rooms is longer: ten rooms, each nine doors from the one before. */
        private static final int LONG_ROUND = 100;

        private final Plan plan;
        private final State state;
        private final int[] ahead = new int[MOST_ROOMS];
        private final int[] behind = new int[MOST_ROOMS];
        private final long[] likely = new long[MOST_ROOMS];
        private final int[] ended = new int[ROOM_SETS];
        private final int[] fresh = new int[ROOM_SETS];
        private final int[] later = new int[ROOM_SETS];
        int many = NONE;
        int where = NONE;

        Graph(Plan plan, State state) {
            this.plan = plan;
            this.state = state;
        }

        /** To be called ahead of each question: doors may have been barred since. */
        void renew() {
            for (int r = 0; r < MOST_ROOMS; r++) {
                ahead[r] = 0;
                behind[r] = 0;
            }
            for (int d = 0; d < plan.doors; d++) {
                if (((state.barred >> d) & 1) == 0) {
                    ahead[plan.from[d]] |= 1 << plan.to[d];
                    behind[plan.to[d]] |= 1 << plan.from[d];
                }
            }
        }

        int aheadOf(int room) {
            return room >= 0 && room < MOST_ROOMS ? ahead[room] : 0;
        }

        int oneAhead(int rooms) {
            return joined(ahead, rooms);
        }

        private int joined(int[] doors, int rooms) {
            int found = 0;
            for (int r = 0; r < plan.rooms; r++) {
                if (((rooms >> r) & 1) != 0) {
                    found |= doors[r];
                }
            }
            return found;
        }

        int reachFrom(int rooms) {
            return closure(ahead, rooms);
        }

        int reachTo(int rooms) {
            return closure(behind, rooms);
        }

        private int closure(int[] doors, int rooms) {
            int found = rooms;
            for (int i = 0; i < MOST_ROOMS; i++) {
                int more = found | joined(doors, found);
                if (more == found) {
                    return found;
                }
                found = more;
            }
            return found;
        }

        int wingOf(int rooms) {
            return reachFrom(rooms) & reachTo(rooms);
        }

        int fewestDoors(int start, int goal) {
            int rooms = start;
            for (int doors = 0; doors <= MOST_ROOMS; doors++) {
                if ((rooms & goal) != 0) {
                    return doors;
                }
                rooms |= oneAhead(rooms);
            }
            return NONE;
        }

        int firstDoor(int room, int other) {
            int fewest = fewestDoors(1 << room, 1 << other);
            if (fewest <= 0) {
                return NONE;
            }
            int doors = plan.leaving[room] & ~state.barred;
            for (int d = 0; d < plan.doors; d++) {
                boolean leaves = ((doors >> d) & 1) != 0;
                if (leaves && fewestDoors(1 << plan.to[d], 1 << other) == fewest - 1) {
                    return d;
                }
            }
            return NONE;
        }

        /** The rooms that are farthest from some: how far, and the least. */
        void unrollFrom(int start) {
            many = NONE;
            where = NONE;
            int reached = 0;
            int farthest = start;
            for (int doors = 0; doors <= MOST_ROOMS && farthest != 0; doors++) {
                many = doors;
                where = lowest(farthest);
                reached |= farthest;
                farthest = oneAhead(farthest) & ~reached;
            }
        }

        /** Wings that none comes to and wings that none leaves can be paired, one new door a pair. */
        int newDoorsToJoinAll() {
            int wings = 0;
            int sources = 0;
            int sinks = 0;
            int left = plan.allRooms();
            for (int i = 0; i < MOST_ROOMS && left != 0; i++) {
                int wing = wingOf(left & -left);
                wings++;
                if ((joined(behind, wing) & ~wing) == 0) {
                    sources++;
                }
                if ((joined(ahead, wing) & ~wing) == 0) {
                    sinks++;
                }
                left &= ~wing;
            }
            return wings <= 1 ? 0 : Math.max(sources, sinks);
        }

        void bringTogether(int one, int two) {
            many = NONE;
            where = NONE;
            int ofOne = one;
            int ofTwo = two;
            for (int times = 0; times <= MOST_ROOMS; times++) {
                int common = ofOne & ofTwo;
                if (common != 0) {
                    many = times;
                    where = lowest(common);
                    return;
                }
                ofOne |= oneAhead(ofOne);
                ofTwo |= oneAhead(ofTwo);
            }
        }

        /** For each set of rooms one has been in, the rooms in which one can end: fewest doors first. */
        void goRound(int room) {
            many = NONE;
            where = NONE;
            int all = plan.allRooms();
            if (reachFrom(1 << room) != all) {
                return;
            }
            for (int been = 0; been <= all && been < ROOM_SETS; been++) {
                ended[been] = 0;
                fresh[been] = 0;
                later[been] = 0;
            }
            ended[1 << room] = 1 << room;
            fresh[1 << room] = 1 << room;
            for (int doors = 0; doors <= LONG_ROUND; doors++) {
                if (fresh[all] != 0) {
                    many = doors;
                    where = lowest(fresh[all]);
                    return;
                }
                goOneDoor(all);
            }
        }

        private void goOneDoor(int all) {
            for (int been = 1; been <= all && been < ROOM_SETS; been++) {
                int rooms = fresh[been];
                for (int i = 0; i < MOST_ROOMS && rooms != 0; i++) {
                    enterFrom(been, lowest(rooms));
                    rooms &= rooms - 1;
                }
            }
            for (int been = 1; been <= all && been < ROOM_SETS; been++) {
                fresh[been] = later[been];
                ended[been] |= later[been];
                later[been] = 0;
            }
        }

        private void enterFrom(int been, int room) {
            int rooms = aheadOf(room);
            for (int i = 0; i < MOST_ROOMS && rooms != 0; i++) {
                int entered = rooms & -rooms;
                int then = been | entered;
                if (then < ROOM_SETS && (ended[then] & entered) == 0) {
                    later[then] |= entered;
                }
                rooms &= rooms - 1;
            }
        }

        /** Likelihood times SURE; a way that comes to a room twice is never likelier, so none is kept. */
        long likeliest(int room, int other) {
            for (int r = 0; r < MOST_ROOMS; r++) {
                likely[r] = 0;
            }
            likely[room] = SURE;
            boolean better = true;
            for (int i = 0; i < MOST_ROOMS && better; i++) {
                better = false;
                for (int d = 0; d < plan.doors; d++) {
                    int b = plan.to[d];
                    long by = likely[plan.from[d]] / ALWAYS_ASLEEP * plan.asleep[b];
                    if (((state.barred >> d) & 1) == 0 && by > likely[b]) {
                        likely[b] = by;
                        better = true;
                    }
                }
            }
            return likely[other];
        }

        long aboveInLeastTerms(long above) {
            return above == 0 ? 0 : above / commonTwos(above);
        }

        long belowInLeastTerms(long above) {
            return above == 0 ? 1 : SURE / commonTwos(above);
        }

        /** SURE is a power of two, and no likelihood is above it: one in common is the lowest bit. */
        private static long commonTwos(long above) {
            return above & -above;
        }
    }

    /** The fewest doors that part two rooms: as many as ways that share no door. */
    private static final class Parting {
        private final Plan plan;
        private final State state;
        private final int[] queue = new int[MOST_ROOMS];
        private final int[] via = new int[MOST_ROOMS];
        private final int[] before = new int[MOST_ROOMS];
        private int taken = 0;

        Parting(Plan plan, State state) {
            this.plan = plan;
            this.state = state;
        }

        int fewest(int room, int other) {
            return waysApart(room, other, plan.allDoors() & ~state.barred);
        }

        /** A door is in a set of the fewest just if without it one way less is left. */
        int firstDoors(int room, int other) {
            int doors = plan.allDoors() & ~state.barred;
            int ways = waysApart(room, other, doors);
            int chosen = 0;
            for (int d = 0; d < plan.doors && ways > 0; d++) {
                int without = doors & ~(1 << d);
                if (without != doors && waysApart(room, other, without) < ways) {
                    chosen |= 1 << d;
                    doors = without;
                    ways--;
                }
            }
            return chosen;
        }

        private int waysApart(int room, int other, int doors) {
            taken = 0;
            for (int ways = 0; ways < MOST_DOORS; ways++) {
                if (!findsWay(room, other, doors)) {
                    return ways;
                }
            }
            return MOST_DOORS;
        }

        /** One way more, where a door that was taken may be given back by going against it. */
        private boolean findsWay(int room, int other, int doors) {
            int found = 1 << room;
            int tail = 1;
            queue[0] = room;
            for (int head = 0; head < tail && head < MOST_ROOMS; head++) {
                int here = queue[head];
                for (int d = 0; d < plan.doors; d++) {
                    int there = ((doors >> d) & 1) != 0 ? leadsTo(d, here) : NONE;
                    if (there != NONE && ((found >> there) & 1) == 0 && tail < MOST_ROOMS) {
                        found |= 1 << there;
                        via[there] = d;
                        before[there] = here;
                        queue[tail] = there;
                        tail++;
                    }
                }
            }
            if (((found >> other) & 1) == 0) {
                return false;
            }
            takeWay(room, other);
            return true;
        }

        private int leadsTo(int door, int here) {
            if (((taken >> door) & 1) != 0) {
                return plan.to[door] == here ? plan.from[door] : NONE;
            }
            return plan.from[door] == here ? plan.to[door] : NONE;
        }

        private void takeWay(int room, int other) {
            int here = other;
            for (int i = 0; i < MOST_ROOMS && here != room; i++) {
                taken ^= 1 << via[here];
                here = before[here];
            }
        }
    }

    /** A WALK, and where it can have led. */
    private static final class Walk {
        private static final int MOST_MORE = 6;
        private static final int NO_WAY = 99;

        private final Plan plan;
        private final Graph graph;
        private final int[] lines = new int[MOST_LINES];
        private final int[] drafted = new int[MOST_LINES];
        private final int[] wrong = new int[MOST_LINES * MOST_ROOMS];
        private final boolean[] beliefs = new boolean[ROOM_SETS];
        private final boolean[] later = new boolean[ROOM_SETS];
        int length = 0;

        Walk(Plan plan, Graph graph) {
            this.plan = plan;
            this.graph = graph;
        }

        void clear() {
            length = 0;
        }

        boolean read(Reader r) {
            int count = 0;
            for (int i = 0; i <= MOST_LINES && !r.atEnd(); i++) {
                if (!r.needsNumber(MOST_SIGHTS - 1)) {
                    return false;
                }
                if (count >= MOST_LINES) {
                    return r.fail(TOO_MANY, r.start);
                }
                drafted[count] = r.value;
                count++;
                if (!r.needs(';')) {
                    return false;
                }
            }
            System.arraycopy(drafted, 0, lines, 0, MOST_LINES);
            length = count;
            return true;
        }

        int standing() {
            graph.renew();
            int rooms = plan.allRooms();
            for (int i = 0; i < length; i++) {
                int here = i == 0 ? rooms : graph.oneAhead(rooms);
                rooms = here & plan.seeing[lines[i]];
            }
            return rooms;
        }

        int roomsToKnow() {
            int all = plan.allRooms();
            for (int b = 0; b <= all && b < ROOM_SETS; b++) {
                beliefs[b] = false;
                later[b] = false;
            }
            beliefs[standing() & all] = true;
            for (int more = 0; more <= MOST_MORE; more++) {
                if (allKnow(all)) {
                    return more;
                }
                lookOnce(all);
            }
            return NONE;
        }

        private boolean allKnow(int all) {
            for (int b = 0; b <= all && b < ROOM_SETS; b++) {
                if (beliefs[b] && Integer.bitCount(b) > 1) {
                    return false;
                }
            }
            return true;
        }

        /** From each set in which one may stand to those that the next sight leaves. */
        private void lookOnce(int all) {
            for (int b = 0; b <= all && b < ROOM_SETS; b++) {
                int there = beliefs[b] ? graph.oneAhead(b) : 0;
                for (int l = 0; l < MOST_SIGHTS && there != 0; l++) {
                    later[there & plan.seeing[l]] = true;
                }
            }
            for (int b = 0; b <= all && b < ROOM_SETS; b++) {
                beliefs[b] = later[b];
                later[b] = false;
            }
        }

        int fewestWrong() {
            if (length == 0) {
                return 0;
            }
            graph.renew();
            for (int line = length - 1; line >= 0; line--) {
                for (int r = 0; r < plan.rooms; r++) {
                    int rest = line == length - 1 ? 0 : fewestBehind(line, r);
                    wrong[line * MOST_ROOMS + r] = Math.min(NO_WAY, rest + slip(line, r));
                }
            }
            int fewest = NO_WAY;
            for (int r = 0; r < plan.rooms; r++) {
                fewest = Math.min(fewest, wrong[r]);
            }
            return fewest == NO_WAY ? NONE : fewest;
        }

        private int slip(int line, int room) {
            return plan.sees[room] == lines[line] ? 0 : 1;
        }

        private int fewestBehind(int line, int room) {
            int rooms = graph.aheadOf(room);
            int fewest = NO_WAY;
            for (int r = 0; r < plan.rooms; r++) {
                if (((rooms >> r) & 1) != 0) {
                    fewest = Math.min(fewest, wrong[(line + 1) * MOST_ROOMS + r]);
                }
            }
            return fewest;
        }

        /** Stands on the rows that fewestWrong has just filled; ahead of the first wrong line all are right. */
        int firstWrong(int fewest) {
            int latest = NONE;
            int right = plan.allRooms();
            for (int line = 0; line < length && fewest > 0; line++) {
                int here = line == 0 ? right : graph.oneAhead(right);
                int slipping = here & ~plan.seeing[lines[line]];
                for (int r = 0; r < plan.rooms; r++) {
                    if (((slipping >> r) & 1) != 0 && wrong[line * MOST_ROOMS + r] == fewest) {
                        latest = line;
                    }
                }
                right = here & plan.seeing[lines[line]];
            }
            return latest;
        }
    }

    /** One who walks asleep; which doors are open is worked out once for each hour and room of a question. */
    private static final class Sleeper {
        private static final int FACTOR = 1103515245;
        private static final int ADDEND = 12345;
        private static final int FIFTEEN_BITS = 32767;

        private final Plan plan;
        private final State state;
        private final Hours hours;
        private final int[] known = new int[FAR_HOURS];
        private final int[] open = new int[FAR_HOURS];
        private int seed = 0;
        int stands = 0;
        int been = 0;
        int passed = 0;

        Sleeper(Plan plan, State state, Hours hours) {
            this.plan = plan;
            this.state = state;
            this.hours = hours;
        }

        /** To be called ahead of each question: what is known of doors may have changed since. */
        void lieDown() {
            for (int h = 0; h < FAR_HOURS; h++) {
                known[h] = 0;
                open[h] = 0;
            }
        }

        void sleep(int firstSeed, int room, int many) {
            seed = firstSeed;
            stands = room;
            been = 1 << room;
            passed = 0;
            for (int h = 0; h < many && h < FAR_HOURS; h++) {
                int doors = openFrom(stands, h);
                int choices = Integer.bitCount(doors);
                if (choices > 0) {
                    stands = plan.to[pick(doors, draw() % choices)];
                    been |= 1 << stands;
                    passed++;
                }
            }
        }

        private int openFrom(int room, int h) {
            int leaving = plan.leaving[room];
            if (((known[h] >> room) & 1) == 0) {
                known[h] |= 1 << room;
                for (int d = 0; d < plan.doors; d++) {
                    if (((leaving >> d) & 1) != 0 && hours.isOpen(d, state.hour + h)) {
                        open[h] |= 1 << d;
                    }
                }
            }
            return open[h] & leaving;
        }

        private int draw() {
            seed = seed * FACTOR + ADDEND;
            return (seed >>> 16) & FIFTEEN_BITS;
        }

        private static int pick(int doors, int skipped) {
            int left = doors;
            for (int i = 0; i < skipped; i++) {
                left &= left - 1;
            }
            return lowest(left);
        }
    }
}
