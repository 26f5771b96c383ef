/** Promises 1 to 13 and 39 to 42: each sentence that names a boundary case. */
public final class BoundaryCallsTest {
    /** Rooms 0 to 3: 0 to 1, 1 to 2 (8 to 20), 2 to 0, 2 to 3 (10 alone); three tours, two warders. */
    private static final String RING = "room 0;room 1;room 0;room 2;door 0 1 0 23;door 1 2 8 20;door 2 0 0 23;"
        + "door 2 3 10 10;exit 0;tour 0;tour 1;tour 1;warder 1 8;warder 3 4;";
    private static final int LOW = Integer.MIN_VALUE;
    private static final int HIGH = Integer.MAX_VALUE;

    public static void main(String[] args) {
        aNewObject();
        aNewObjectTakesTexts();
        feedInOrder();
        feedTooMuch();
        museumTakesTheTape();
        museumBeginsAnew();
        museumLeavesNothingOfTheOther();
        museumFaults();
        museumRefused();
        law();
        lawFaults();
        workTaken();
        workCounts();
        workFaults();
        workFull();
        walk();
        fault();
        undo();
        told();
        toldRefused();
        room();
        door();
        tour();
        open();
        image();
        imageKeepsAll();
        restore();
        status();
        statusBesideImages();
        count();
        lastCalls();
        Sentence.promisesWereNamed(1, 13);
        Sentence.promisesWereNamed(39, 42);
        Check.end();
    }

    /** What a MUSEUM, a LAW, WORK and a WALK have left, for a museum as small as RING. */
    private static String all(LostMuseum x) {
        StringBuilder b = new StringBuilder();
        for (int what = 0; what <= 9; what++) {
            b.append(x.told(what)).append(' ');
        }
        for (int d = 0; d < x.told(1); d++) {
            for (int what = 0; what <= 6; what++) {
                b.append(x.door(d, what)).append(what == 6 ? ' ' : ',');
            }
        }
        for (int r = 0; r < x.told(0); r++) {
            b.append(x.room(r, 0)).append(x.room(r, 1)).append(x.room(r, 2)).append(x.room(r, 3)).append(' ');
        }
        b.append(x.count(0)).append(x.count(2)).append(' ').append(x.fits());
        return b.toString();
    }

    private static LostMuseum used() {
        LostMuseum x = Check.of(RING);
        Check.law(x, "1-door");
        Check.walk(x, "0;1;");
        Check.work(x, "go 0 0;bar 1;bar 1;hour;");
        x.image();
        return x;
    }

    private static void aNewObject() {
        Sentence.promise(1, "A MUSEUM without CLAUSES.");
        LostMuseum x = new LostMuseum();
        for (int what = 0; what <= 9; what++) {
            Sentence.due(x.told(what), 0);
        }
        Sentence.missing(() -> x.room(0, 0));
        Sentence.missing(() -> x.door(0, 0));
        Sentence.missing(() -> x.tour(0));
        Sentence.missing(() -> x.open(0, 0, 0));
        Sentence.missing(() -> x.ends(0));
        Sentence.missing(() -> x.soon(0, 0));
        Sentence.missing(() -> x.within(0, 0));
        Sentence.missing(() -> x.out(0));
        Sentence.missing(() -> x.string(0));
        Sentence.missing(() -> x.wing(0));
        Sentence.missing(() -> x.round(0));
        Sentence.missing(() -> x.last(0));
        Sentence.missing(() -> x.meet(0, 0, 0));
        Sentence.missing(() -> x.parted(0, 0, 0));
        Sentence.missing(() -> x.quiet(0, 0, 0));
        Sentence.missing(() -> x.way(0, 0));
        Sentence.missing(() -> x.next(0, 0));
        Sentence.missing(() -> x.loop(0));
        Sentence.missing(() -> x.sleepwalk(0, 0, 0, 0));
        Sentence.missing(() -> x.span(0, 1, 0, 0, 0, 0));
        Sentence.due(x.status(0), 20);
        Sentence.due(x.status(1), 0);
        Sentence.due(x.fits(), 0);
        Sentence.due(x.knows(), 0);
        Sentence.due(x.slips(0), 0);
        Sentence.due(x.slips(1), -1);
        Sentence.due(x.longest(0), -1);
        Sentence.due(x.longest(1), -1);
        for (int what = 0; what <= 2; what++) {
            Sentence.due(x.lost(what), 0);
            Sentence.due(x.count(what), 0);
        }
        Sentence.due(x.cuts(), 0);
        Sentence.due(x.closed(0, 0) + x.closed(23, 1), 0);
        Sentence.due(x.crowded(0), -1);
        Sentence.due(x.crowded(1), -1);
        Sentence.due(x.worn(0), -1);
        Sentence.due(x.worn(1), -1);
        Sentence.due(x.fault(), -1);
        Sentence.due(x.undo(), -1);
        Sentence.due(x.restore(), -1);
    }

    private static void aNewObjectTakesTexts() {
        Sentence.promise(1, "A MUSEUM without CLAUSES.");
        LostMuseum x = new LostMuseum();
        Sentence.due(Check.work(x, "hour;hour;"), 2);
        Sentence.due(x.image(), 1);
        Sentence.due(Check.law(x, "door"), 1);
        Sentence.due(Check.walk(x, "3;"), 1);
        Sentence.due(x.fits(), 0);
        Sentence.due(x.knows(), 0);
        Sentence.due(x.slips(0), -1);
        Sentence.due(x.slips(1), -1);
        Sentence.due(x.undo(), 0);
        Sentence.due(x.told(3), 0);
        Sentence.due(x.restore(), 0);
        Sentence.due(x.told(3), 2);
        LostMuseum y = new LostMuseum();
        Sentence.due(y.museum(0), 0);
        Sentence.due(y.told(0), 0);
    }

    private static void feedInOrder() {
        Sentence.promise(2, "Twenty bytes come on the TAPE, of each number the highest first: how many there are");
        LostMuseum x = new LostMuseum();
        Sentence.due(x.feed(0x726f6f6d, 0x20313b72, 0x6f6f6d20, 0x323b726f, 0x6f6d333b), 20);
        Sentence.due(x.feed(0x20202020, 0x20202020, 0x20202020, 0x726f6f6d, 0x2020373b), 40);
        Sentence.due(x.count(1), 40);
        Sentence.due(x.museum(40), 4);
        Sentence.due(x.room(0, 0), 1);
        Sentence.due(x.room(1, 0), 2);
        Sentence.due(x.room(2, 0), 3);
        Sentence.due(x.room(3, 0), 7);
        Sentence.due(x.feed(-1, LOW, HIGH, 0, 1), 20);
        Sentence.due(x.museum(20), -9);
        Sentence.due(x.fault(), 0);
    }

    private static void feedTooMuch() {
        Sentence.promise(2, "NONE, doing nothing, if there would be more than 600");
        LostMuseum x = new LostMuseum();
        for (int i = 1; i <= 29; i++) {
            Sentence.due(x.feed(0x20202020, 0x20202020, 0x20202020, 0x20202020, 0x20202020), 20 * i);
        }
        Sentence.due(x.feed(0x20202020, 0x20202020, 0x20202020, 0x2020726f, 0x6f6d373b), 600);
        for (int i = 0; i < 3; i++) {
            Sentence.due(x.feed(0, 0, 0, 0, 0), -1);
            Sentence.due(x.count(1), 600);
        }
        Sentence.due(x.museum(600), 1);
        Sentence.due(x.room(0, 0), 7);
        Sentence.due(x.feed(0, 0, 0, 0, 0), 20);
    }

    private static void museumTakesTheTape() {
        Sentence.promise(3, "The first n bytes of the TAPE (empty then) are the MUSEUM");
        LostMuseum x = new LostMuseum();
        Check.load(x, "room 1;room 2;room 3;room 4;");
        Sentence.due(x.museum(14), 2);
        Sentence.due(x.count(1), 0);
        Sentence.illegal(() -> x.museum(1));
        Check.load(x, "room 5;");
        Sentence.due(x.museum(7), 1);
        Sentence.due(x.room(0, 0), 5);
        Check.load(x, "room 5;");
        Sentence.due(x.museum(6), -9);
        Sentence.due(x.fault(), 6);
        Sentence.due(x.count(1), 0);
        Check.load(x, "room 5;");
        Sentence.due(x.museum(0), 0);
        Sentence.due(x.count(1), 0);
        Sentence.due(x.museum(0), 0);
        Check.load(x, " ".repeat(600));
        Sentence.due(x.museum(600), 0);
        Sentence.due(x.count(1), 0);
    }

    private static void museumBeginsAnew() {
        Sentence.promise(3, "(HOUR 0; no LAW, WALK, IMAGES, nothing to undo): how many ROOMS");
        LostMuseum x = used();
        Check.work(x, "hour;bar 2;bar 2;");
        Check.walk(x, "9;");
        Sentence.due(Check.museum(x, RING), 4);
        Sentence.due(x.fault(), -1);
        Sentence.due(all(x), all(Check.of(RING)));
        Sentence.due(x.undo(), -1);
        Sentence.due(x.restore(), -1);
        Sentence.due(x.told(9), 0);
        Sentence.due(x.open(1, 8, 0) && !x.open(1, 7, 0), true);
        Sentence.due(x.told(8), 0);
        for (int i = 1; i <= 3; i++) {
            Sentence.due(x.image(), i);
        }
        for (int i = 1; i <= 16; i++) {
            Sentence.due(x.work(0), 0);
        }
        Sentence.due(x.work(0), -20);
        Sentence.due(Check.museum(x, "room 0;".repeat(10)), 10);
        Sentence.due(x.image(), 1);
        Sentence.due(x.work(0), 0);
        Sentence.due(x.count(2), 1);
        Sentence.due(Check.museum(x, "room 6;"), 1);
        Sentence.due(x.told(1) + x.told(2), 0);
        Sentence.due(x.lost(0), 1);
        Sentence.due(x.closed(0, 0), 1);
    }

    /** Ten rooms, 24 doors, six tours: a star round room 0, six doors from 9 to 8 beside it, all that is seen is 7. */
    private static String full() {
        StringBuilder b = new StringBuilder("room 7;".repeat(10));
        for (int i = 1; i < 10; i++) {
            b.append("door 0 ").append(i).append(" 0 23;door ").append(i).append(" 0 0 23;");
        }
        return b + "door 9 8 0 23;".repeat(6) + "tour 9;".repeat(6);
    }

    private static String questions(LostMuseum x) {
        StringBuilder b = new StringBuilder(all(x));
        for (int l = 0; l < 8; l++) {
            Check.walk(x, l + ";");
            b.append(' ').append(x.fits()).append(x.knows()).append(x.slips(0));
        }
        for (int r = 0; r < x.told(0); r++) {
            b.append(' ').append(x.room(r, 4)).append(x.room(r, 5)).append(x.within(r, 96)).append(x.wing(r));
            b.append(x.round(r)).append(x.loop(r)).append(x.out(r)).append(x.string(r)).append(x.quiet(0, r, 1));
            b.append(x.parted(0, r, 1)).append(x.sleepwalk(1, r, 96, 0)).append(x.span(9, 9, r, 30, 0, 0));
        }
        return b.append(x.cuts()).append(x.lost(0)).append(x.lost(1)).append(x.longest(0)).append(x.worn(0))
            .append(x.crowded(0)).append(x.closed(0, 0)).append(x.closed(0, 1)).toString();
    }

    private static void museumLeavesNothingOfTheOther() {
        Sentence.promise(3, "are the MUSEUM");
        LostMuseum x = Check.of(full());
        x.quiet(0, 9, 0);
        x.parted(9, 8, 1);
        x.round(0);
        x.knows();
        x.span(1, 40, 9, 96, 8, 1);
        Sentence.due(Check.work(x, "go 5 23;go 4 22;bar 23;bar 9;hour;"), 5);
        Sentence.due(Check.museum(x, RING), 4);
        Sentence.due(questions(x), questions(Check.of(RING)));
        LostMuseum back = Check.of(RING);
        back.span(1, 40, 0, 96, 1, 1);
        Check.work(back, "go 0 0;bar 1;");
        String turned = "room 1;room 5;room 5;door 1 0 0 23;door 2 1 0 23;tour 2;";
        Sentence.due(Check.museum(back, turned), 3);
        Sentence.due(questions(back), questions(Check.of(turned)));
        LostMuseum again = Check.of(full());
        Check.work(again, "go 5 23;");
        Check.museum(again, full());
        Sentence.due(again.door(23, 6), 0);
        Sentence.due(again.tour(5), 9);
        // A MUSEUM with a FAULT leaves nothing in the next one, either.
        LostMuseum fault = new LostMuseum();
        Check.museum(fault, full() + "x");
        Check.museum(fault, turned);
        Sentence.due(questions(fault), questions(Check.of(turned)));
    }

    private static void museumFaults() {
        Sentence.promise(3, "or the FAULT less 10 (all stays)");
        LostMuseum x = used();
        String before = all(x);
        Sentence.due(Check.museum(x, "room 0;room 1;door 0 1 0 0;zoom"), -9);
        Sentence.due(all(x), before);
        Sentence.due(Check.museum(x, "room 0;room 8;"), -8);
        Sentence.due(all(x), before);
        Sentence.due(Check.museum(x, "room 7;".repeat(11)), -7);
        Sentence.due(all(x), before);
        Sentence.due(x.open(0, 0, 0) && !x.open(2, 0, 0), true);
        Sentence.due(x.restore(), 0);
        Sentence.due(x.undo(), 0);
        Sentence.due(x.told(3), 0);
    }

    private static void museumRefused() {
        Sentence.promise(3, "IllegalArgumentException: n is not 0 to the TAPE's bytes (it stays)");
        LostMuseum x = new LostMuseum();
        for (int n : new int[] {-1, 1, 20, 600, 601, LOW, HIGH}) {
            Sentence.illegal(() -> x.museum(n));
        }
        Check.load(x, "room 7;room 7;");
        for (int n : new int[] {-1, 21, 40, 600, 601, LOW, HIGH}) {
            Sentence.illegal(() -> x.museum(n));
            Sentence.due(x.count(1), 20);
        }
        Sentence.due(x.status(1), 14);
        Sentence.due(x.museum(14), 2);
        Check.load(x, " ".repeat(600));
        Sentence.illegal(() -> x.museum(601));
        Sentence.due(x.count(1), 600);
        Sentence.due(x.told(0), 2);
    }

    private static void law() {
        Sentence.promise(4, "Likewise the LAW (n to 150): 1.");
        LostMuseum x = used();
        Check.load(x, "0+1*0" + " ".repeat(155));
        Sentence.illegal(() -> x.law(151));
        Sentence.illegal(() -> x.law(160));
        Sentence.illegal(() -> x.law(161));
        Sentence.illegal(() -> x.law(-1));
        Sentence.illegal(() -> x.law(LOW));
        Sentence.illegal(() -> x.law(HIGH));
        Sentence.due(x.count(1), 160);
        Sentence.due(x.law(150), 1);
        Sentence.due(x.count(1), 0);
        Sentence.due(x.told(4), 0);
        Sentence.illegal(() -> x.law(1));
        Check.load(x, "1+1");
        Sentence.illegal(() -> x.law(21));
        Sentence.due(x.law(1), 1);
        Sentence.due(x.count(1), 0);
        Sentence.due(x.open(0, 0, 0), true);
        Sentence.due(x.told(3), 1);
        Sentence.due(x.told(8), 2);
        Sentence.due(x.told(9), 1);
        Sentence.due(x.count(0), 1);
        Sentence.due(x.count(2), 1);
    }

    private static void lawFaults() {
        Sentence.promise(4, "Likewise the LAW");
        LostMuseum x = used();
        String before = all(x);
        Sentence.due(x.law(0), -9);
        Sentence.due(x.fault(), 0);
        Sentence.due(Check.law(x, "0*plan*"), -9);
        Sentence.due(x.fault(), 7);
        Sentence.due(x.count(1), 0);
        Sentence.due(Check.law(x, "0*1000"), -8);
        Sentence.due(x.fault(), 2);
        Sentence.due(Check.law(x, "0*((((((("), -7);
        Sentence.due(x.fault(), 8);
        Sentence.due(all(x), before);
        Sentence.due(x.open(0, 0, 0) && !x.open(2, 0, 0), true);
    }

    private static void workTaken() {
        Sentence.promise(5, "Likewise WORK (n to 150), which is done");
        LostMuseum x = Check.of(RING);
        Check.load(x, "hour;".repeat(32));
        Sentence.illegal(() -> x.work(151));
        Sentence.illegal(() -> x.work(160));
        Sentence.illegal(() -> x.work(161));
        Sentence.illegal(() -> x.work(-1));
        Sentence.illegal(() -> x.work(LOW));
        Sentence.illegal(() -> x.work(HIGH));
        Sentence.due(x.count(1), 160);
        Sentence.due(x.count(2), 0);
        Sentence.due(x.work(150), 30);
        Sentence.due(x.count(1), 0);
        Sentence.illegal(() -> x.work(1));
        Check.load(x, "hour;bar 0;");
        Sentence.illegal(() -> x.work(21));
        Sentence.due(x.work(5), 1);
        Sentence.due(x.told(3), 31);
        Sentence.due(x.told(5), 0);
        Check.load(x, "hour;bar 0;");
        Sentence.due(x.work(0), 0);
        Sentence.due(x.count(1), 0);
        Sentence.due(x.count(2), 3);
    }

    private static void workCounts() {
        Sentence.promise(5, "how many STEPS were done (agains not counted, nor REFUSED ones)");
        LostMuseum x = Check.of(RING);
        Sentence.due(x.work(0), 0);
        Sentence.due(Check.work(x, "again 5 [];"), 0);
        Sentence.due(x.told(9), 0);
        Sentence.due(Check.work(x, "unbar 0;go 0 2;"), 0);
        Sentence.due(x.told(9), 2);
        Sentence.due(Check.work(x, "again 2 [hour;again 2 [bar 0;];];go 0 0;go 1 1;unbar 0;go 0 0;"), 5);
        Sentence.due(x.told(9), 5);
    }

    private static void workFaults() {
        Sentence.promise(5, "or the FAULT less 10 (none is)");
        LostMuseum x = used();
        String before = all(x);
        Sentence.due(Check.work(x, "hour;bar 0;hours;"), -9);
        Sentence.due(x.fault(), 11);
        Sentence.due(x.count(1), 0);
        Sentence.due(all(x), before);
        Sentence.due(Check.work(x, "hour;bar 0;bar 4;"), -8);
        Sentence.due(all(x), before);
        Sentence.due(Check.work(x, "hour;" + "again 1[".repeat(7)), -7);
        Sentence.due(all(x), before);
        Sentence.due(x.undo(), 0);
    }

    private static void workFull() {
        Sentence.promise(5, "-20 ahead of that (nothing is read, there is no FAULT, the TAPE is empty then): 16 WORKS are there that were not undone");
        LostMuseum x = Check.of(RING);
        for (int i = 1; i <= 16; i++) {
            Sentence.due(Check.work(x, i == 16 ? "hour;unbar 0;" : "hour;"), 1);
            Sentence.due(x.count(2), i);
        }
        Check.walk(x, "0;8;");
        Sentence.due(x.fault(), 2);
        Sentence.due(Check.work(x, "hours"), -20);
        Sentence.due(x.fault(), -1);
        Sentence.due(x.count(1), 0);
        Sentence.due(Check.work(x, "hour;"), -20);
        Sentence.due(x.work(0), -20);
        Sentence.due(x.told(3), 16);
        Sentence.due(x.told(9), 1);
        Sentence.due(x.count(2), 16);
        Check.load(x, "hour;");
        Sentence.illegal(() -> x.work(21));
        Sentence.due(x.count(1), 20);
        Sentence.due(x.work(5), -20);
        Sentence.due(x.undo(), 15);
        Sentence.due(Check.work(x, "hours"), -9);
        Sentence.due(Check.work(x, "hour;"), 1);
        Sentence.due(x.work(0), -20);
        x.image();
        Sentence.due(x.undo(), 15);
        Sentence.due(x.restore(), 0);
        Sentence.due(x.work(0), -20);
        Sentence.due(Check.law(x, "1"), 1);
        Sentence.due(Check.walk(x, "0;"), 1);
        Sentence.due(Check.museum(x, RING), 4);
        Sentence.due(x.work(0), 0);
    }

    private static void walk() {
        Sentence.promise(6, "Likewise the WALK (n to 60): how many lines");
        LostMuseum x = used();
        Check.load(x, "0;1;" + " ".repeat(76));
        Sentence.illegal(() -> x.walk(61));
        Sentence.illegal(() -> x.walk(80));
        Sentence.illegal(() -> x.walk(81));
        Sentence.illegal(() -> x.walk(-1));
        Sentence.illegal(() -> x.walk(LOW));
        Sentence.illegal(() -> x.walk(HIGH));
        Sentence.due(x.count(1), 80);
        Sentence.due(x.walk(60), 2);
        Sentence.due(x.count(1), 0);
        Sentence.illegal(() -> x.walk(1));
        Check.load(x, "0;1;0;");
        Sentence.illegal(() -> x.walk(21));
        Sentence.due(x.walk(2), 1);
        Sentence.due(x.told(8), 1);
        Sentence.due(x.fits(), 5);
        for (String text : new String[] {"1;x", "1;8;", "1;".repeat(13)}) {
            Sentence.due(Check.walk(x, text) < 0, true);
            Sentence.due(x.count(1), 0);
            Sentence.due(x.told(8), 1);
            Sentence.due(x.fits(), 5);
        }
        Sentence.due(Check.walk(x, "0;".repeat(12)), 12);
        Sentence.due(x.walk(0), 0);
        Sentence.due(x.fits(), 15);
        Sentence.due(x.told(3), 1);
        Sentence.due(x.count(2), 1);
    }

    private static void fault() {
        Sentence.promise(7, "The place of the FAULT of the latest text; NONE without.");
        LostMuseum x = new LostMuseum();
        Sentence.due(x.fault(), -1);
        x.law(0);
        Sentence.due(x.fault(), 0);
        Check.load(x, "room 0;");
        Sentence.illegal(() -> x.museum(21));
        Sentence.due(x.fault(), 0);
        x.museum(6);
        Sentence.due(x.fault(), 6);
        Check.walk(x, "0;1;2;9;");
        Sentence.due(x.fault(), 6);
        Check.walk(x, "0;1;2;");
        Sentence.due(x.fault(), -1);
        Check.museum(x, " ".repeat(594) + "room 0");
        Sentence.due(x.fault(), 600);
        Check.museum(x, "room 0;");
        Sentence.due(x.fault(), -1);
        Check.work(x, "hour");
        Sentence.due(x.fault(), 4);
        x.image();
        x.undo();
        x.restore();
        Sentence.due(x.fault(), 4);
        Check.law(x, "1");
        Sentence.due(x.fault(), -1);
        Check.law(x, "1+");
        Sentence.due(x.fault(), 2);
        Check.work(x, "hour;unbar 0");
        Sentence.due(x.fault(), 11);
        Check.work(x, "hour;");
        Sentence.due(x.fault(), -1);
    }

    private static void undo() {
        Sentence.promise(8, "The latest WORK that was done is undone: how many are left; -1: there is none.");
        LostMuseum x = Check.of(RING);
        Sentence.due(x.undo(), -1);
        String[] before = new String[16];
        String[] steps = {"hour;", "go 0 0;", "bar 0;", "", "unbar 1;", "unbar 0;", "hour;hour;", "hours"};
        for (int i = 0; i < 16; i++) {
            before[i] = Integer.toString(x.told(3)) + x.told(5) + x.told(6) + x.told(7) + x.tour(0);
            int done = Check.work(x, steps[i % 7]);
            Sentence.due(done >= 0, true);
            // No WORK that has a FAULT is there to be undone.
            Sentence.due(Check.work(x, steps[7]), i < 15 ? -9 : -20);
        }
        for (int i = 15; i >= 0; i--) {
            Sentence.due(x.undo(), i);
            Sentence.due(Integer.toString(x.told(3)) + x.told(5) + x.told(6) + x.told(7) + x.tour(0), before[i]);
        }
        Sentence.due(x.undo(), -1);
        Sentence.due(x.undo(), -1);
        Sentence.due(x.count(2), 0);
        LostMuseum full = Check.of(full());
        Check.work(full, "go 5 23;go 0 17;bar 23;");
        Sentence.due(full.undo(), 0);
        Sentence.due(full.tour(5), 9);
        Sentence.due(full.tour(0), 9);
        Sentence.due(full.door(23, 6) + full.door(17, 6) + full.door(23, 4), 0);
        Check.work(x, "hour;");
        Check.law(x, "0");
        Check.walk(x, "1;");
        Sentence.due(x.undo(), 0);
        Sentence.due(x.told(4), 0);
        Sentence.due(x.told(8), 1);
    }

    private static void told() {
        Sentence.promise(9, "IllegalArgumentException: another what (so below).");
        LostMuseum x = Check.of(RING);
        Sentence.range(0, 9, x::told);
        Sentence.promise(9, "0 ROOMS, 1 DOORS, 2 TOURS, 3 the HOUR, 4 DOORS open now, 5 barred, 6 how often DOORS were used in all, "
            + "7 how often two MET, 8 lines of the WALK");
        LostMuseum full = Check.of("room 0;".repeat(10) + "door 0 1 0 0;".repeat(23) + "door 0 1 1 1;" + "tour 0;".repeat(6));
        Sentence.due(full.told(0), 10);
        Sentence.due(full.told(1), 24);
        Sentence.due(full.told(2), 6);
        Sentence.due(full.told(4), 23);
        Check.walk(full, "0;".repeat(12));
        Sentence.due(full.told(8), 12);
        Check.work(full, "go 0 0;go 1 1;go 2 2;bar 22;bar 23;");
        Sentence.due(full.told(4), 22);
        Sentence.due(full.told(5), 2);
        Sentence.due(full.told(6), 3);
        Sentence.due(full.told(7), 3);
        Check.work(full, "hour;");
        Sentence.due(full.told(3), 1);
        Sentence.due(full.told(4), 0);
        LostMuseum star = Check.of(full());
        Check.work(star, "go 5 23;go 4 23;go 3 17;go 3 0;");
        Sentence.due(star.told(6), 4);
        Check.work(full, "unbar 23;");
        Sentence.due(full.told(4), 1);
    }

    private static void toldRefused() {
        Sentence.promise(9, "9 STEPS REFUSED by the latest WORK (0 ahead of any, behind undo(), restore())");
        LostMuseum x = Check.of(RING);
        Sentence.due(x.told(9), 0);
        Check.work(x, "unbar 0;unbar 0;");
        Sentence.due(x.told(9), 2);
        Check.work(x, "unbar 0;hour;");
        Sentence.due(x.told(9), 1);
        Check.work(x, "hours;");
        Sentence.due(x.told(9), 1);
        x.image();
        Sentence.due(x.told(9), 1);
        x.restore();
        Sentence.due(x.told(9), 0);
        Check.work(x, "unbar 0;unbar 0;");
        x.undo();
        Sentence.due(x.told(9), 0);
        Check.work(x, "unbar 0;");
        x.work(0);
        Sentence.due(x.told(9), 0);
        Check.work(x, "again 30 [unbar 0;unbar 0;unbar 0;unbar 0;unbar 0;unbar 0;];again 30 [unbar 0;];");
        Sentence.due(x.told(9), 198);
        Check.museum(x, RING);
        Sentence.due(x.told(9), 0);
    }

    private static void room() {
        LostMuseum x = Check.of(RING);
        Sentence.promise(10, "NoSuchElementException: no such ROOM, DOOR, TOUR (so below, ahead of others).");
        Sentence.there(4, r -> x.room(r, 0));
        Sentence.missing(() -> x.room(4, 6));
        Sentence.missing(() -> x.room(-1, -1));
        Sentence.promise(10, "throws NoSuchElementException, IllegalArgumentException");
        Sentence.range(0, 5, what -> x.room(0, what));
        Sentence.promise(10, "Of a ROOM: 0 L, 1 1 an EXIT, 0 not, 2 Q, 3 TOURS that stand there, 4 DOORS from it open now, 5 to it.");
        int[][] due = {{0, 1, 16, 1, 1, 1}, {1, 0, 8, 2, 0, 1}, {0, 0, 16, 0, 1, 0}, {2, 0, 4, 0, 0, 0}};
        for (int r = 0; r < 4; r++) {
            for (int what = 0; what <= 5; what++) {
                Sentence.due(x.room(r, what), due[r][what]);
            }
        }
        LostMuseum full = Check.of("room 0;".repeat(8) + "room 7;room 7;" + "door 8 9 0 23;".repeat(24) + "tour 9;".repeat(6) + "exit 9;");
        Sentence.due(full.room(9, 1), 1);
        Sentence.due(full.room(9, 3), 6);
        Sentence.due(full.room(8, 4), 24);
        Sentence.due(full.room(9, 5), 24);
        Sentence.due(full.room(8, 5) + full.room(9, 4), 0);
        Check.work(full, "bar 23;bar 0;");
        Sentence.due(full.room(8, 4), 22);
        Sentence.due(full.room(9, 5), 22);
    }

    private static void door() {
        LostMuseum x = Check.of(RING);
        Sentence.promise(11, "throws NoSuchElementException, IllegalArgumentException");
        Sentence.there(4, d -> x.door(d, 0));
        Sentence.missing(() -> x.door(4, 7));
        Sentence.missing(() -> x.door(-1, -1));
        Sentence.range(0, 6, what -> x.door(0, what));
        Sentence.promise(11, "Of a DOOR: 0 A, 1 B, 2 F, 3 T, 4 1 barred, 0 not, 5 1 open now, 0 not, 6 how often it was used.");
        int[][] due = {{0, 1, 0, 23, 0, 1, 0}, {1, 2, 8, 20, 0, 0, 0}, {2, 0, 0, 23, 0, 1, 0}, {2, 3, 10, 10, 0, 0, 0}};
        for (int d = 0; d < 4; d++) {
            for (int what = 0; what <= 6; what++) {
                Sentence.due(x.door(d, what), due[d][what]);
            }
        }
        int[] open = {7, 0, 8, 1, 20, 1, 21, 0, 31, 0, 32, 1, 44, 1, 45, 0};
        for (int i = 0; i < open.length; i += 2) {
            Check.work(x, "again " + (open[i] - x.told(3)) + " [hour;];");
            Sentence.due(x.told(3), open[i]);
            Sentence.due(x.door(1, 5), open[i + 1]);
        }
        Check.work(x, "go 0 0;bar 0;");
        Sentence.due(x.door(0, 4), 1);
        Sentence.due(x.door(0, 5), 0);
        Sentence.due(x.door(0, 6), 1);
    }

    private static void tour() {
        Sentence.promise(12, "The ROOM in which a TOUR stands.");
        LostMuseum x = Check.of(RING);
        Sentence.there(3, x::tour);
        Sentence.due(x.tour(0), 0);
        Sentence.due(x.tour(2), 1);
        Check.work(x, "go 0 0;");
        Sentence.due(x.tour(0), 1);
        LostMuseum full = Check.of("room 0;".repeat(10) + "tour 9;".repeat(6));
        Sentence.there(6, full::tour);
        Sentence.due(full.tour(5), 9);
        LostMuseum none = Check.of("room 0;");
        Sentence.missing(() -> none.tour(0));
    }

    private static void open() {
        Sentence.promise(13, "Whether a DOOR is open in an HOUR of the day (0 to 23) of a day (0 to 99).");
        LostMuseum x = Check.of(RING);
        Sentence.there(4, d -> x.open(d, 0, 0));
        Sentence.missing(() -> x.open(4, 24, 100));
        Sentence.missing(() -> x.open(-1, -1, -1));
        Sentence.range(0, 23, hour -> x.open(0, hour, 0));
        Sentence.range(0, 99, day -> x.open(0, 0, day));
        Sentence.illegal(() -> x.open(0, 24, 0));
        Sentence.illegal(() -> x.open(0, 23, 100));
        Check.law(x, "day*24+hour-999-999-401");
        Sentence.due(x.open(0, 23, 99), false);
        Check.law(x, "day*24+hour-999-999-400");
        Sentence.due(x.open(0, 23, 99), true);
        Sentence.due(x.open(0, 22, 99), false);
        Check.law(x, "1-day*24-hour");
        Sentence.due(x.open(0, 0, 0), true);
        Sentence.due(x.open(0, 1, 0) || x.open(0, 0, 1), false);
        Check.work(x, "hour;bar 0;");
        Sentence.due(x.open(0, 0, 0), false);
        Sentence.due(x.open(3, 0, 0), true);
    }

    private static void image() {
        Sentence.promise(39, "how many there are; -1: there are 3.");
        LostMuseum x = new LostMuseum();
        for (int i = 1; i <= 3; i++) {
            Sentence.due(x.image(), i);
            Check.work(x, "hour;");
        }
        Sentence.due(x.image(), -1);
        Sentence.due(x.image(), -1);
        Sentence.due(x.count(0), 3);
        Sentence.due(x.restore(), 2);
        Sentence.due(x.told(3), 2);
        Sentence.due(x.image(), 3);
        Sentence.due(x.image(), -1);
        Sentence.due(x.restore(), 2);
        Sentence.due(x.restore(), 1);
        Sentence.due(x.told(3), 1);
        Sentence.due(x.restore(), 0);
        Sentence.due(x.told(3), 0);
        Sentence.due(x.image(), 1);
    }

    private static void imageKeepsAll() {
        Sentence.promise(39, "An IMAGE of all that WORK changes, and of WORKS that can be undone");
        LostMuseum x = Check.of(RING);
        for (int i = 0; i < 16; i++) {
            Check.work(x, i == 3 ? "go 0 0;bar 2;" : "hour;");
        }
        String before = all(x);
        x.image();
        for (int i = 15; i >= 0; i--) {
            x.undo();
        }
        for (int i = 0; i < 16; i++) {
            Check.work(x, "bar 3;unbar 3;hour;hour;go 1 1;");
        }
        Sentence.due(x.restore(), 0);
        Sentence.due(all(x), before);
        for (int i = 15; i >= 0; i--) {
            Sentence.due(x.undo(), i);
            Sentence.due(x.told(3), i <= 3 ? i : i - 1);
            Sentence.due(x.told(5), i <= 3 ? 0 : 1);
            Sentence.due(x.tour(0), i <= 3 ? 0 : 1);
        }
        Sentence.due(x.undo(), -1);
    }

    private static void restore() {
        Sentence.promise(40, "All that is as in the latest IMAGE, which is gone: how many are left; -1: there is none.");
        LostMuseum x = Check.of(RING);
        Sentence.due(x.restore(), -1);
        Check.work(x, "go 0 0;");
        Sentence.due(x.restore(), -1);
        Sentence.due(x.tour(0), 1);
        x.image();
        Check.work(x, "hour;bar 1;");
        x.image();
        Check.work(x, "unbar 1;bar 2;hour;unbar 3;");
        Check.law(x, "0");
        Check.walk(x, "2;");
        Sentence.due(x.restore(), 1);
        Sentence.due(x.told(3), 1);
        Sentence.due(x.door(1, 4), 1);
        Sentence.due(x.door(2, 4), 0);
        Sentence.due(x.count(2), 2);
        Sentence.due(x.told(9), 0);
        // LAW and WALK are not changed by WORK.
        Sentence.due(x.told(4), 0);
        Sentence.due(x.told(8), 1);
        Sentence.due(x.restore(), 0);
        Sentence.due(x.told(3), 0);
        Sentence.due(x.told(5), 0);
        Sentence.due(x.tour(0), 1);
        Sentence.due(x.count(2), 1);
        Sentence.due(x.restore(), -1);
        Sentence.due(x.undo(), 0);
        Sentence.due(x.tour(0), 0);
    }

    private static void status() {
        Sentence.promise(41, "How many calls were refused: 0 NoSuchElementException, 1 IllegalArgumentException; NONE for others.");
        LostMuseum x = Check.of(RING);
        Sentence.due(x.status(0), 0);
        Sentence.due(x.status(1), 0);
        for (int what : new int[] {2, -1, 3, LOW, HIGH}) {
            Sentence.due(x.status(what), -1);
        }
        Sentence.missing(() -> x.span(0, 0, 9, 99, 9, 9));
        Sentence.due(x.status(0), 1);
        Sentence.missing(() -> x.span(0, 0, 0, 99, 9, 9));
        Sentence.due(x.status(0), 2);
        Sentence.due(x.status(1), 0);
        Sentence.illegal(() -> x.span(0, 0, 0, 99, 0, 9));
        Sentence.due(x.status(1), 1);
        Sentence.illegal(() -> x.open(0, 24, 100));
        Sentence.due(x.status(1), 2);
        Sentence.missing(() -> x.tour(3));
        Sentence.missing(() -> x.door(4, 0));
        Sentence.missing(() -> x.way(4, 4));
        Sentence.due(x.status(0), 5);
        // What answers NONE, -1, -20 or a FAULT is no call that was refused by an exception.
        x.undo();
        x.restore();
        x.law(0);
        x.count(9);
        Sentence.due(x.status(0), 5);
        Sentence.due(x.status(1), 2);
        for (int n : new int[] {-1, 1}) {
            Sentence.illegal(() -> x.museum(n));
            Sentence.illegal(() -> x.law(n));
            Sentence.illegal(() -> x.work(n));
            Sentence.illegal(() -> x.walk(n));
        }
        Sentence.due(x.status(1), 10);
    }

    private static void statusBesideImages() {
        Sentence.promise(41, "(No IMAGE keeps it.)");
        LostMuseum x = Check.of(RING);
        Sentence.illegal(() -> x.told(10));
        x.image();
        Sentence.illegal(() -> x.told(10));
        Sentence.missing(() -> x.tour(9));
        x.restore();
        Sentence.due(x.status(0), 1);
        Sentence.due(x.status(1), 2);
        x.work(0);
        Sentence.illegal(() -> x.told(10));
        x.undo();
        Sentence.due(x.status(1), 3);
        x.museum(0);
        Sentence.due(x.status(0), 1);
        Sentence.due(x.status(1), 3);
    }

    private static void count() {
        Sentence.promise(42, "0 IMAGES, 1 bytes of the TAPE, 2 WORKS that can be undone; NONE for others.");
        LostMuseum x = new LostMuseum();
        for (int what : new int[] {3, -1, 4, LOW, HIGH}) {
            Sentence.due(x.count(what), -1);
        }
        for (int i = 0; i <= 3; i++) {
            Sentence.due(x.count(0), i);
            x.image();
        }
        Sentence.due(x.count(0), 3);
        for (int i = 0; i <= 16; i++) {
            Sentence.due(x.count(2), i);
            x.work(0);
        }
        Sentence.due(x.count(2), 16);
        for (int i = 0; i <= 30; i++) {
            Sentence.due(x.count(1), 20 * i);
            x.feed(0, 0, 0, 0, 0);
        }
        Sentence.due(x.count(1), 600);
        x.restore();
        Sentence.due(x.count(0), 2);
        Sentence.due(x.count(2), 0);
        Sentence.due(x.count(1), 600);
        Sentence.due(x.undo(), -1);
        Sentence.due(x.count(2), 0);
        x.walk(0);
        Sentence.due(x.count(1), 0);
    }

    private static void lastCalls() {
        Sentence.face("An object is used for at most 512 calls after it has been made");
        LostMuseum x = new LostMuseum();
        for (int i = 0; i < 255; i++) {
            Sentence.missing(() -> x.tour(0));
            Sentence.illegal(() -> x.told(10));
        }
        Sentence.due(x.status(0), 255);
        Sentence.due(x.status(1), 255);
    }
}
