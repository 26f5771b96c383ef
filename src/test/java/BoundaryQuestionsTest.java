/** Promises 14 to 38 and what "==== 3." says of them: each sentence that names a boundary case. */
public final class BoundaryQuestionsTest {
    /** Rooms 0 to 3: 0 to 1, 1 to 2 (8 to 20), 2 to 0, 2 to 3 (10 alone). */
    private static final String RING = "room 0;room 1;room 0;room 2;door 0 1 0 23;door 1 2 8 20;door 2 0 0 23;"
        + "door 2 3 10 10;exit 0;tour 0;tour 1;warder 1 8;warder 3 4;";
    private static final String APART = "room 0;room 0;";
    private static final int LOW = Integer.MIN_VALUE;
    private static final int HIGH = Integer.MAX_VALUE;

    public static void main(String[] args) {
        fullMuseum();
        askedAgain();
        fits();
        fitsEmpty();
        knowsAtOnce();
        knowsToSix();
        knowsNever();
        slips();
        slipsFirst();
        ends();
        soon();
        soonFar();
        within();
        out();
        string();
        longest();
        lost();
        cuts();
        wing();
        round();
        last();
        meet();
        parted();
        partedFirst();
        quiet();
        quietLeastTerms();
        way();
        next();
        loop();
        closed();
        crowded();
        worn();
        sleepwalk();
        sleepwalkDraws();
        sleepwalkStays();
        sleepwalkFar();
        span();
        spanSeeds();
        Sentence.promisesWereNamed(14, 38);
        Check.end();
    }

    private static String row(int rooms) {
        StringBuilder b = new StringBuilder("room 0;".repeat(rooms));
        for (int i = 0; i + 1 < rooms; i++) {
            b.append("door ").append(i).append(' ').append(i + 1).append(" 0 23;");
        }
        return b.toString();
    }

    private static String circle(int rooms) {
        return row(rooms) + "door " + (rooms - 1) + " 0 0 23;";
    }

    /** Room 0 in the midst, a door to each other and one back. */
    private static String star(int rooms) {
        StringBuilder b = new StringBuilder("room 0;".repeat(rooms));
        for (int i = 1; i < rooms; i++) {
            b.append("door 0 ").append(i).append(" 0 23;door ").append(i).append(" 0 0 23;");
        }
        return b.toString();
    }

    private static void waitTill960(LostMuseum x) {
        for (int i = 0; i < 5; i++) {
            Check.work(x, "again 30 [hour;hour;hour;hour;hour;hour;];");
        }
        Check.work(x, "again 30 [hour;hour;];");
        Check.same("HOUR", x.told(3), 960);
    }

    /** A star round room 0 and six doors from 9 to 8 beside it: ten rooms, 24 doors, six tours. */
    private static void fullMuseum() {
        Sentence.terms("10 at most");
        LostMuseum x = Check.of(star(10) + "door 9 8 0 23;".repeat(6) + "tour 9;".repeat(6) + "exit 0;");
        Sentence.due(x.told(1), 24);
        Sentence.due(x.told(4), 24);
        Sentence.due(x.fits(), 1023);
        Sentence.due(x.knows(), -1);
        Check.walk(x, "1;".repeat(12));
        Sentence.due(x.slips(0), 12);
        Sentence.due(x.soon(1, 9), 2);
        Sentence.due(x.soon(9, 8), 1);
        Sentence.due(x.within(0, 1), 1023);
        Sentence.due(x.within(9, 1), 769);
        Sentence.due(x.out(9), 1);
        Sentence.due(x.string(9), 1);
        Sentence.due(x.longest(1), 1);
        Sentence.due(x.lost(0) + x.lost(1) + x.lost(2), 0);
        Sentence.due(x.cuts(), 0);
        Sentence.due(x.wing(9), 1023);
        Sentence.due(x.round(0), 16);
        Sentence.due(x.last(0), 1);
        Sentence.due(x.meet(8, 9, 0), 1);
        Sentence.due(x.meet(8, 9, 1), 0);
        Sentence.due(x.parted(9, 8, 0), 7);
        Sentence.due(x.parted(9, 8, 1), (1 << 14) + (63 << 18));
        Sentence.due(x.quiet(9, 8, 0), 1);
        Sentence.due(x.quiet(1, 9, 1), 1);
        Sentence.due(x.way(1, 9), 2);
        Sentence.due(x.next(9, 8), 18);
        Sentence.due(x.next(9, 0), 17);
        Sentence.due(x.loop(9), 2);
        Sentence.due(x.closed(23, 0) + x.closed(23, 1), 0);
        Sentence.due(x.crowded(0), 9);
        Sentence.due(Check.work(x, "go 5 23;go 4 23;"), 2);
        Sentence.due(x.worn(0), 23);
        Sentence.due(x.sleepwalk(1, 9, 1, 0), draw(drawn(1)) % 7 == 0 ? 0 : 8);
        Sentence.due(x.span(1, 40, 9, 96, 0, 1), 40);
    }

    private static void askedAgain() {
        Sentence.asked("Asked, nothing stays changed");
        LostMuseum x = Check.of(circle(10) + "warder 9 8;");
        Sentence.due(x.loop(0), 10);
        Sentence.due(x.quiet(0, 9, 1), 2);
        Sentence.due(x.knows(), -1);
        Check.walk(x, "7;");
        Sentence.due(x.knows(), 0);
        Sentence.due(x.round(0), 9);
        Sentence.due(x.longest(0), -1);
        Sentence.due(x.longest(1), -1);
        Sentence.due(x.meet(0, 9, 0), 1);
        Sentence.due(x.longest(0), -1);
        Sentence.due(x.span(1, 40, 0, 9, 9, 0), 40);
        Sentence.due(x.sleepwalk(1, 0, 9, 0), 9);
        Check.work(x, "bar 9;");
        Sentence.due(x.loop(0), -1);
        Sentence.due(x.round(1), -1);
        Check.work(x, "bar 8;");
        Sentence.due(x.quiet(0, 9, 0), 0);
        Sentence.due(x.span(1, 40, 0, 9, 9, 0), 0);
        Sentence.due(x.sleepwalk(1, 0, 9, 0), 8);
        Check.law(x, "1-hour");
        Sentence.due(x.span(1, 40, 0, 9, 1, 0), 40);
        Check.work(x, "hour;");
        Sentence.due(x.span(1, 40, 0, 9, 1, 0), 0);
        Sentence.due(x.span(1, 40, 0, 24, 1, 0), 40);
        LostMuseum two = Check.of(circle(2));
        Sentence.due(two.knows(), -1);
        Check.walk(two, "7;");
        Sentence.due(two.knows(), 0);
    }

    private static void fits() {
        Sentence.asked("FITS: ROOMS in which one may stand, who has seen the WALK, one DOOR (by PLAN) from each ROOM to the next, from any ROOM on");
        LostMuseum x = Check.of(RING);
        Sentence.promise(14, "FITS, as bits.");
        Check.walk(x, "0;");
        Sentence.due(x.fits(), 5);
        Check.walk(x, "0;0;");
        Sentence.due(x.fits(), 1);
        Check.walk(x, "0;0;0;");
        Sentence.due(x.fits(), 0);
        Check.walk(x, "7;");
        Sentence.due(x.fits(), 0);
        Check.walk(x, "0;1;0;0;1;0;0;1;0;0;1;0;");
        Sentence.due(x.fits(), 4);
        Check.walk(x, "0;1;0;0;1;0;0;1;0;0;1;2;");
        Sentence.due(x.fits(), 0);
        Check.walk(x, "2;2;");
        Sentence.due(x.fits(), 0);
        LostMuseum ten = Check.of(row(10));
        Check.walk(ten, "0;0;0;0;0;0;0;0;0;0;");
        Sentence.due(ten.fits(), 512);
        Check.walk(ten, "0;0;0;0;0;0;0;0;0;0;0;");
        Sentence.due(ten.fits(), 0);
    }

    private static void fitsEmpty() {
        Sentence.asked("(an empty WALK: any ROOM)");
        LostMuseum x = Check.of("room 0;".repeat(10));
        Sentence.due(x.fits(), 1023);
        Check.walk(x, "7;");
        Sentence.due(x.fits(), 0);
        x.walk(0);
        Sentence.due(x.fits(), 1023);
        Sentence.due(Check.of("room 0;").fits(), 1);
        Sentence.due(new LostMuseum().fits(), 0);
    }

    private static void knowsAtOnce() {
        Sentence.asked("one ROOM at most is left in which one may stand");
        LostMuseum x = Check.of("room 3;");
        Sentence.due(x.knows(), 0);
        Check.walk(x, "4;");
        Sentence.due(x.knows(), 0);
        LostMuseum fork = Check.of("room 1;room 0;room 0;door 0 1 0 0;door 0 2 0 0;");
        Check.walk(fork, "1;");
        Sentence.due(fork.knows(), 0);
        // No DOOR leads on: after one ROOM more there is none in which one may stand.
        Sentence.due(Check.of("room 0;room 0;").knows(), 1);
        Sentence.due(Check.of("room 0;".repeat(10)).knows(), 1);
    }

    private static void knowsToSix() {
        Sentence.asked("KNOWS: the fewest ROOMS more (0 to 6), gone to one behind the other by PLAN, so that, whatever is seen in them");
        Sentence.promise(15, "KNOWS.");
        for (int rooms = 1; rooms <= 7; rooms++) {
            Sentence.due(Check.of(row(rooms)).knows(), rooms - 1);
        }
        Sentence.due(Check.of(row(8)).knows(), -1);
        Sentence.due(Check.of(row(10)).knows(), -1);
        LostMuseum x = Check.of(row(10));
        Check.walk(x, "0;0;0;");
        Sentence.due(x.knows(), -1);
        Check.walk(x, "0;0;0;0;");
        Sentence.due(x.knows(), 6);
        Check.walk(x, "0;0;0;0;0;0;0;0;0;0;");
        Sentence.due(x.knows(), 0);
        // From 0 one sees 1 and knows; from 1 one sees 2 and does not: two may be meant.
        LostMuseum some = Check.of("room 0;room 0;room 1;room 2;room 2;room 3;room 4;door 0 2 0 0;door 1 3 0 0;door 1 4 0 0;"
            + "door 3 5 0 0;door 4 6 0 0;");
        Check.walk(some, "0;");
        Sentence.due(some.knows(), 2);
        // Who has come to 0 knows, but goes on to 5 or 6; who has come to 3 or 4 knows a room later: 3 for all.
        LostMuseum grown = Check.of("room 1;room 5;room 5;room 2;room 2;room 3;room 3;room 4;room 6;room 7;door 1 0 0 0;"
            + "door 2 3 0 0;door 2 4 0 0;door 0 5 0 0;door 0 6 0 0;door 3 7 0 0;door 4 8 0 0;door 5 9 0 0;");
        Check.walk(grown, "5;");
        Sentence.due(grown.knows(), 3);
        // The same, where one comes to 0 from one room alone, and to 5 or 6 only when all others know: 4.
        LostMuseum later = Check.of("room 1;room 2;room 5;room 3;room 3;room 4;room 4;room 6;room 6;room 5;door 2 1 0 0;"
            + "door 1 0 0 0;door 0 5 0 0;door 0 6 0 0;door 9 3 0 0;door 9 4 0 0;door 3 7 0 0;door 4 8 0 0;");
        Check.walk(later, "5;");
        Sentence.due(later.knows(), 4);
        Sentence.due(Check.of("room 7;room 7;room 7;door 0 1 0 0;door 1 2 0 0;").knows(), 2);
    }

    private static void knowsNever() {
        Sentence.asked("one ROOM at most is left in which one may stand; NONE.");
        Sentence.due(Check.of(circle(2)).knows(), -1);
        Sentence.due(Check.of(circle(10)).knows(), -1);
        LostMuseum x = Check.of("room 1;" + circle(3).substring(7));
        Sentence.due(x.knows(), 2);
        Check.walk(x, "0;");
        Sentence.due(x.knows(), 1);
        Check.walk(x, "1;");
        Sentence.due(x.knows(), 0);
    }

    private static void slips() {
        Sentence.asked("SLIPS: the fewest lines of the WALK that must be wrong so that there is a way (by PLAN) to see it; NONE: none is long enough.");
        LostMuseum x = Check.of(row(3));
        int[] due = {0, 0, 0, 0, -1, -1};
        for (int lines = 0; lines <= 5; lines++) {
            Check.walk(x, "0;".repeat(lines));
            Sentence.due(x.slips(0), due[lines]);
            Sentence.due(x.slips(1), -1);
        }
        Check.walk(x, "7;7;7;");
        Sentence.due(x.slips(0), 3);
        Check.walk(x, "7;7;7;7;");
        Sentence.due(x.slips(0), -1);
        LostMuseum ten = Check.of(row(10));
        Check.walk(ten, "1;".repeat(10));
        Sentence.due(ten.slips(0), 10);
        Check.walk(ten, "1;".repeat(11));
        Sentence.due(ten.slips(0), -1);
        LostMuseum circle = Check.of(circle(2));
        Check.walk(circle, "1;".repeat(12));
        Sentence.due(circle.slips(0), 12);
        Check.walk(circle, "0;".repeat(12));
        Sentence.due(circle.slips(0), 0);
        LostMuseum one = Check.of("room 5;");
        Check.walk(one, "4;");
        Sentence.due(one.slips(0), 1);
        Check.walk(one, "5;5;");
        Sentence.due(one.slips(0), -1);
        LostMuseum none = new LostMuseum();
        Sentence.due(none.slips(0), 0);
        Check.walk(none, "0;");
        Sentence.due(none.slips(0), -1);
        Sentence.promise(16, "throws IllegalArgumentException");
        Sentence.range(0, 1, x::slips);
    }

    private static void slipsFirst() {
        Sentence.promise(16, "1 the line (from 0 on) that is wrong first, by a way of as few by which that comes latest; NONE: none is wrong, or there is no way.");
        LostMuseum circle = Check.of(circle(2));
        Sentence.due(circle.slips(1), -1);
        Check.walk(circle, "0;".repeat(12));
        Sentence.due(circle.slips(1), -1);
        Check.walk(circle, "0;".repeat(11) + "1;");
        Sentence.due(circle.slips(0), 1);
        Sentence.due(circle.slips(1), 11);
        Check.walk(circle, "1;" + "0;".repeat(11));
        Sentence.due(circle.slips(1), 0);
        Check.walk(circle, "1;".repeat(12));
        Sentence.due(circle.slips(1), 0);
        // One line is wrong: by 0 1 2 the first, by 3 4 5 the last.
        LostMuseum two = Check.of("room 1;room 3;room 4;room 2;room 3;room 5;door 0 1 0 0;door 1 2 0 0;door 3 4 0 0;door 4 5 0 0;");
        Check.walk(two, "2;3;4;");
        Sentence.due(two.slips(0), 1);
        Sentence.due(two.slips(1), 2);
        Check.work(two, "bar 3;");
        Sentence.due(two.slips(1), 0);
        // A way on which the first wrong line comes later does not count, if more are wrong by it.
        LostMuseum more = Check.of("room 1;room 3;room 4;room 2;room 0;room 0;door 0 1 0 0;door 1 2 0 0;door 3 4 0 0;door 4 5 0 0;");
        Check.walk(more, "2;3;4;");
        Sentence.due(more.slips(0), 1);
        Sentence.due(more.slips(1), 0);
        Check.walk(more, "2;3;4;5;");
        Sentence.due(more.slips(1), -1);
    }

    private static void ends() {
        Sentence.promise(17, "Whether one may stand in a ROOM by FITS.");
        LostMuseum x = Check.of(RING);
        Sentence.there(4, x::ends);
        for (int r = 0; r < 4; r++) {
            Sentence.due(x.ends(r), true);
        }
        Check.walk(x, "0;");
        for (int r = 0; r < 4; r++) {
            Sentence.due(x.ends(r), r == 0 || r == 2);
        }
        Check.walk(x, "7;");
        for (int r = 0; r < 4; r++) {
            Sentence.due(x.ends(r), false);
        }
        LostMuseum ten = Check.of("room 0;".repeat(9) + "room 7;");
        Check.walk(ten, "7;");
        Sentence.due(ten.ends(9) && !ten.ends(0) && !ten.ends(8), true);
        Sentence.there(10, ten::ends);
    }

    private static void soon() {
        Sentence.asked("SOON from ROOM to ROOM by HOURS: in how many HOURS from now one can be there (0: one is");
        Sentence.promise(18, "SOON.");
        LostMuseum x = Check.of(RING);
        Sentence.there(4, r -> x.soon(r, 0));
        Sentence.there(4, r -> x.soon(0, r));
        Sentence.missing(() -> x.soon(4, 4));
        for (int r = 0; r < 4; r++) {
            Sentence.due(x.soon(r, r), 0);
        }
        Sentence.due(x.soon(0, 1), 1);
        Sentence.due(x.soon(0, 2), 9);
        Sentence.due(x.soon(3, 2), -1);
        Check.law(x, "0");
        Sentence.due(x.soon(0, 0), 0);
        Sentence.due(x.soon(0, 1), -1);
        Sentence.due(Check.of(row(10)).soon(0, 9), 9);
    }

    private static void soonFar() {
        Sentence.asked("(0: one is; to 96); NONE.");
        LostMuseum x = Check.of("room 0;room 0;door 0 1 0 23;");
        Check.law(x, "day/3*(hour/23)");
        Sentence.due(x.soon(0, 1), 96);
        Check.law(x, "day/4");
        Sentence.due(x.soon(0, 1), -1);
        Check.work(x, "hour;");
        Sentence.due(x.soon(0, 1), 96);
        waitFrom1(x);
        Check.law(x, "day/43*(hour/23)");
        Sentence.due(x.soon(0, 1), 96);
        Check.law(x, "day/44");
        Sentence.due(x.soon(0, 1), -1);
        Check.law(x, "day-39");
        Sentence.due(x.soon(0, 1), 1);
        Check.law(x, "(day-39)*(hour-22)");
        Sentence.due(x.soon(0, 1), 24);
    }

    private static void waitFrom1(LostMuseum x) {
        x.undo();
        waitTill960(x);
    }

    private static void within() {
        Sentence.promise(19, "ROOMS one can be in within n HOURS from now (0 to 96) by HOURS, as bits.");
        LostMuseum x = Check.of(RING);
        Sentence.there(4, r -> x.within(r, 0));
        Sentence.range(0, 96, n -> x.within(0, n));
        Sentence.missing(() -> x.within(4, 97));
        Sentence.missing(() -> x.within(-1, -1));
        Sentence.due(x.within(2, 0), 4);
        Sentence.due(x.within(0, 8), 3);
        Sentence.due(x.within(0, 9), 7);
        Sentence.due(x.within(0, 10), 7);
        Sentence.due(x.within(0, 11), 15);
        Sentence.due(Check.of(star(10)).within(0, 1), 1023);
        Check.law(x, "day/3*(hour/23)");
        Sentence.due(x.within(0, 95), 1);
        Sentence.due(x.within(0, 96), 3);
        Check.law(x, "day/4");
        Sentence.due(x.within(0, 96), 1);
        LostMuseum ten = Check.of(row(10));
        Sentence.due(ten.within(0, 9), 1023);
        Sentence.due(ten.within(0, 8), 511);
        Sentence.due(ten.within(9, 96), 512);
        waitTill960(x);
        Check.law(x, "day/43*(hour/23)");
        Sentence.due(x.within(0, 95), 1);
        Sentence.due(x.within(0, 96), 3);
    }

    private static void out() {
        Sentence.promise(20, "The fewest HOURS in which one in a ROOM can be at an EXIT; NONE.");
        LostMuseum x = Check.of(RING);
        Sentence.there(4, x::out);
        Sentence.due(x.out(0), 0);
        Sentence.due(x.out(1), 10);
        Sentence.due(x.out(2), 1);
        Sentence.due(x.out(3), -1);
        Check.law(x, "0");
        Sentence.due(x.out(0), 0);
        Sentence.due(x.out(2), -1);
        Sentence.due(Check.of(APART).out(0), -1);
        Sentence.due(Check.of(APART + "exit 0;exit 1;").out(1), 0);
        LostMuseum far = Check.of("room 0;room 0;door 0 1 0 23;exit 1;");
        Check.law(far, "day/3*(hour/23)");
        Sentence.due(far.out(0), 96);
        Check.law(far, "day/4");
        Sentence.due(far.out(0), -1);
        LostMuseum two = Check.of("room 0;room 0;room 0;door 0 1 4 4;door 0 2 3 3;exit 1;exit 2;");
        Sentence.due(two.out(0), 4);
        Check.work(two, "bar 1;");
        Sentence.due(two.out(0), 5);
    }

    private static void string() {
        Sentence.asked("STRING from an EXIT to a ROOM: the fewest DOORS (by PLAN); NONE.");
        Sentence.promise(21, "STRING.");
        LostMuseum x = Check.of(row(10) + "exit 0;");
        Sentence.there(10, x::string);
        Sentence.due(x.string(0), 0);
        Sentence.due(x.string(9), 9);
        LostMuseum two = Check.of(row(10) + "exit 4;exit 1;");
        Sentence.due(two.string(0), -1);
        Sentence.due(two.string(3), 2);
        Sentence.due(two.string(4), 0);
        Sentence.due(two.string(9), 5);
        Sentence.due(Check.of(row(2)).string(1), -1);
    }

    private static void longest() {
        Sentence.promise(22, "The longest STRING that is needed for any ROOM that has one, 0 it, 1 the ROOM (of these the first); NONE: there is none.");
        LostMuseum x = Check.of(row(10) + "exit 0;");
        Sentence.range(0, 1, x::longest);
        Sentence.due(x.longest(0), 9);
        Sentence.due(x.longest(1), 9);
        LostMuseum star = Check.of(star(10) + "exit 0;");
        Sentence.due(star.longest(0), 1);
        Sentence.due(star.longest(1), 1);
        LostMuseum tip = Check.of(star(10) + "exit 1;");
        Sentence.due(tip.longest(0), 2);
        Sentence.due(tip.longest(1), 2);
        LostMuseum all = Check.of("room 0;room 0;room 0;exit 1;exit 2;");
        Sentence.due(all.longest(0), 0);
        Sentence.due(all.longest(1), 1);
        Sentence.due(Check.of(row(3)).longest(0), -1);
        Sentence.due(Check.of(row(3)).longest(1), -1);
        Sentence.due(new LostMuseum().longest(0), -1);
    }

    private static void lost() {
        Sentence.asked("LOST: ROOMS to which one can't come from an EXIT; CAUGHT: from which one can't come to one.");
        Sentence.promise(23, "LOST (what 0), CAUGHT (1), both (2), as bits.");
        LostMuseum x = Check.of(row(10) + "exit 4;");
        Sentence.range(0, 2, x::lost);
        Sentence.due(x.lost(0), 15);
        Sentence.due(x.lost(1), 992);
        Sentence.due(x.lost(2), 0);
        LostMuseum none = Check.of("room 0;".repeat(10));
        for (int what = 0; what <= 2; what++) {
            Sentence.due(none.lost(what), 1023);
            Sentence.due(new LostMuseum().lost(what), 0);
        }
        LostMuseum all = Check.of("room 0;room 0;room 0;exit 0;exit 2;");
        for (int what = 0; what <= 2; what++) {
            Sentence.due(all.lost(what), 2);
        }
        LostMuseum into = Check.of("room 0;room 0;room 0;room 0;door 1 0 0 0;door 2 0 0 0;door 3 0 0 0;exit 0;");
        Sentence.due(into.lost(0), 14);
        Sentence.due(into.lost(1), 0);
    }

    private static void cuts() {
        Sentence.asked("CUTS: the fewest new DOORS (one way each) by which one could come (by PLAN) from each ROOM to each other.");
        Sentence.promise(24, "CUTS.");
        Sentence.due(new LostMuseum().cuts(), 0);
        Sentence.due(Check.of("room 0;").cuts(), 0);
        Sentence.due(Check.of(APART).cuts(), 2);
        Sentence.due(Check.of("room 0;".repeat(10)).cuts(), 10);
        Sentence.due(Check.of(row(2)).cuts(), 1);
        Sentence.due(Check.of(row(10)).cuts(), 1);
        Sentence.due(Check.of(circle(2)).cuts(), 0);
        Sentence.due(Check.of(circle(10)).cuts(), 0);
        Sentence.due(Check.of(circle(9) + "room 0;").cuts(), 2);
        Sentence.due(Check.of(circle(8) + "room 0;room 0;door 8 0 0 0;door 9 1 0 0;").cuts(), 2);
        Sentence.due(Check.of(circle(8) + "room 0;room 0;door 8 0 0 0;door 1 9 0 0;").cuts(), 1);
        Sentence.due(Check.of("room 0;".repeat(8) + "door 0 1 0 0;door 2 3 0 0;door 4 5 0 0;").cuts(), 5);
        Sentence.due(Check.of("room 0;".repeat(10) + "door 0 9 0 0;door 1 9 0 0;door 2 9 0 0;door 3 9 0 0;").cuts(), 9);
        // Doors that are there twice, or closed for good, are doors.
        Sentence.due(Check.of(APART + "door 0 1 5 5;".repeat(23) + "door 1 0 7 7;").cuts(), 0);
    }

    private static void wing() {
        Sentence.promise(25, "ROOMS from which and to which one can come from a ROOM (it, too), as bits.");
        LostMuseum x = Check.of(RING);
        Sentence.there(4, x::wing);
        Sentence.due(x.wing(0), 7);
        Sentence.due(x.wing(3), 8);
        LostMuseum row = Check.of(row(10));
        for (int r = 0; r < 10; r++) {
            Sentence.due(row.wing(r), 1 << r);
        }
        LostMuseum circle = Check.of(circle(10));
        Sentence.due(circle.wing(0), 1023);
        Sentence.due(circle.wing(9), 1023);
        Sentence.due(Check.of("room 0;").wing(0), 1);
    }

    /** A row of five, five ways back from its end: each of these rooms costs the whole round. */
    private static String longRound() {
        StringBuilder b = new StringBuilder("room 0;".repeat(10));
        for (int i = 0; i < 4; i++) {
            b.append("door ").append(i).append(' ').append(i + 1).append(" 0 0;");
        }
        for (int i = 5; i < 10; i++) {
            b.append("door 4 ").append(i).append(" 0 0;door ").append(i).append(" 0 0 0;");
        }
        return b.toString();
    }

    private static void round() {
        Sentence.asked("ROUND from a ROOM: the fewest DOORS (by PLAN) to have been in all ROOMS; NONE.");
        Sentence.promise(26, "ROUND.");
        LostMuseum x = Check.of(row(10));
        Sentence.there(10, x::round);
        Sentence.due(x.round(0), 9);
        Sentence.due(x.round(1), -1);
        Sentence.due(x.round(9), -1);
        Sentence.due(Check.of("room 0;").round(0), 0);
        Sentence.due(Check.of(APART).round(0), -1);
        Sentence.due(Check.of(circle(10)).round(7), 9);
        Sentence.due(Check.of(star(10)).round(0), 17);
        Sentence.due(Check.of(star(10)).round(9), 16);
        // All but 3 have been seen when one is in 1 or in 2, and only from 2 it goes on.
        Sentence.due(Check.of("room 0;room 0;room 0;room 0;door 0 1 0 0;door 0 2 0 0;door 1 2 0 0;door 2 1 0 0;door 2 3 0 0;").round(0), 3);
        Sentence.due(Check.of("room 0;room 0;room 0;room 0;door 0 1 0 0;door 0 2 0 0;door 1 2 0 0;door 2 1 0 0;door 1 3 0 0;").round(0), 3);
        Sentence.due(Check.of("room 0;room 0;room 0;room 0;door 3 0 0 0;door 3 2 0 0;door 0 2 0 0;door 2 0 0 0;door 2 1 0 0;").round(3), 3);
        Sentence.due(Check.of(longRound()).round(0), 29);
        Sentence.due(Check.of(longRound()).round(1), 28);
    }

    private static void last() {
        Sentence.promise(27, "The ROOM in which ROUND from a ROOM can end, of these the least; NONE.");
        LostMuseum x = Check.of(row(10));
        Sentence.there(10, x::last);
        Sentence.due(x.last(0), 9);
        Sentence.due(x.last(1), -1);
        Sentence.due(Check.of("room 0;").last(0), 0);
        Sentence.due(Check.of(APART).last(1), -1);
        Sentence.due(Check.of(circle(10)).last(7), 6);
        Sentence.due(Check.of(star(10)).last(0), 1);
        Sentence.due(Check.of(star(10)).last(1), 2);
        Sentence.due(Check.of(star(10)).last(9), 1);
        Sentence.due(Check.of(longRound()).last(0), 5);
    }

    private static void meet() {
        Sentence.asked("MEET of two ROOMS: two go at once from these, by PLAN, each through one DOOR or staying: the fewest times till they can be in one ROOM (0: it is one); the least such ROOM; NONE.");
        Sentence.promise(28, "MEET: 0 how many times, 1 the ROOM.");
        LostMuseum x = Check.of(row(10));
        Sentence.there(10, r -> x.meet(r, 0, 0));
        Sentence.there(10, r -> x.meet(0, r, 0));
        Sentence.range(0, 1, what -> x.meet(0, 1, what));
        Sentence.range(0, 1, what -> x.meet(0, 0, what));
        Sentence.missing(() -> x.meet(10, 0, 2));
        Sentence.missing(() -> x.meet(0, 10, 2));
        for (int r = 0; r < 10; r++) {
            Sentence.due(x.meet(r, r, 0), 0);
            Sentence.due(x.meet(r, r, 1), r);
        }
        Sentence.due(x.meet(0, 9, 0), 9);
        Sentence.due(x.meet(0, 9, 1), 9);
        Sentence.due(x.meet(9, 0, 0), 9);
        Sentence.due(x.meet(9, 0, 1), 9);
        Sentence.due(x.meet(3, 4, 0), 1);
        Sentence.due(x.meet(3, 4, 1), 4);
        LostMuseum apart = Check.of(APART);
        Sentence.due(apart.meet(0, 1, 0), -1);
        Sentence.due(apart.meet(0, 1, 1), -1);
        LostMuseum star = Check.of(star(10));
        Sentence.due(star.meet(8, 9, 0), 1);
        Sentence.due(star.meet(8, 9, 1), 0);
        Sentence.due(star.meet(9, 0, 0), 1);
        Sentence.due(star.meet(9, 0, 1), 0);
        LostMuseum circle = Check.of(circle(10));
        Sentence.due(circle.meet(0, 5, 0), 5);
        Sentence.due(circle.meet(0, 5, 1), 0);
        Sentence.due(circle.meet(0, 4, 1), 4);
    }

    private static void parted() {
        Sentence.asked("PARTED from a to b: the fewest DOORS (by PLAN) that must be barred so that one can't come from a to b");
        LostMuseum x = Check.of(RING);
        Sentence.there(4, r -> x.parted(r, 0, 0));
        Sentence.there(4, r -> x.parted(0, r, 0));
        Sentence.range(0, 1, what -> x.parted(0, 1, what));
        Sentence.range(0, 1, what -> x.parted(0, 0, what));
        Sentence.missing(() -> x.parted(4, 0, 2));
        Sentence.missing(() -> x.parted(0, 4, 2));
        Sentence.promise(29, "PARTED: 0 how many (NONE: one ROOM), 1 the DOORS (bits; 0 by NONE).");
        Sentence.due(x.parted(2, 2, 0), -1);
        Sentence.due(x.parted(2, 2, 1), 0);
        Sentence.due(x.parted(3, 0, 0), 0);
        Sentence.due(x.parted(3, 0, 1), 0);
        LostMuseum all = Check.of(APART + "door 0 1 0 0;".repeat(24));
        Sentence.due(all.parted(0, 1, 0), 24);
        Sentence.due(all.parted(0, 1, 1), 0xffffff);
        Sentence.due(all.parted(1, 0, 0), 0);
        Sentence.due(all.parted(1, 0, 1), 0);
        Check.work(all, "bar 0;bar 23;");
        Sentence.due(all.parted(0, 1, 0), 22);
        Sentence.due(all.parted(0, 1, 1), 0x7ffffe);
        // Both ways past 2 and 5 are taken first, then given back: the doors 4 and 11 part all.
        LostMuseum given = Check.of("room 0;".repeat(7) + "door 1 3 0 0;door 2 3 0 0;door 5 6 0 0;door 1 3 0 0;door 0 2 0 0;door 0 1 0 0;"
            + "door 2 5 0 0;door 0 1 0 0;door 4 6 0 0;door 2 5 0 0;door 5 4 0 0;door 3 6 0 0;");
        Sentence.due(given.parted(0, 6, 0), 2);
        Sentence.due(given.parted(0, 6, 1), 16 + 2048);
        LostMuseum down = Check.of(APART + "door 1 0 0 0;door 1 0 0 0;");
        Sentence.due(down.parted(1, 0, 0), 2);
        Check.work(down, "bar 0;");
        Sentence.due(down.parted(1, 0, 0), 1);
        Sentence.due(down.parted(1, 0, 1), 2);
        Check.work(down, "bar 1;");
        Sentence.due(down.parted(1, 0, 0), 0);
        Sentence.due(Check.of(row(10) + "door 1 0 0 0;").parted(0, 9, 0), 1);
        LostMuseum end = Check.of(row(10));
        Sentence.due(end.parted(8, 9, 1), 256);
        Sentence.due(end.parted(0, 9, 0), 1);
    }

    private static void partedFirst() {
        Sentence.asked("the first such, DOORS rising, of as many");
        Sentence.due(Check.of(row(10)).parted(0, 9, 1), 1);
        Sentence.due(Check.of(row(10)).parted(4, 9, 1), 16);
        // Two and two doors one behind the other: 0 and 1, 0 and 3, 1 and 2, 2 and 3 would all do.
        LostMuseum x = Check.of("room 0;room 0;room 0;room 0;door 0 1 0 0;door 0 2 0 0;door 1 3 0 0;door 2 3 0 0;");
        Sentence.due(x.parted(0, 3, 1), 3);
        // Told the other way round, the doors at the end come first.
        LostMuseum y = Check.of("room 0;room 0;room 0;room 0;door 2 3 0 0;door 1 3 0 0;door 0 2 0 0;door 0 1 0 0;");
        Sentence.due(y.parted(0, 3, 1), 3);
        Check.work(y, "bar 1;");
        Sentence.due(y.parted(0, 3, 1), 1);
        // 0 and 5 (both from a), 1 and 2, 3 and 4 (both to b): the list that begins least.
        LostMuseum z = Check.of("room 0;room 0;room 0;room 0;room 0;door 0 1 0 0;door 3 4 0 0;door 3 4 0 0;door 1 3 0 0;"
            + "door 2 3 0 0;door 0 2 0 0;");
        Sentence.due(z.parted(0, 4, 0), 2);
        Sentence.due(z.parted(0, 4, 1), 1 + 16);
        // A door that stands on a way, but in no set of the fewest, is not among them.
        LostMuseum w = Check.of("room 0;room 0;room 0;door 0 1 0 0;door 0 1 0 0;door 1 2 0 0;");
        Sentence.due(w.parted(0, 2, 1), 4);
    }

    private static void quietIs(LostMuseum x, int room, int other, long above, long below) {
        Sentence.due(x.quiet(room, other, 0), above);
        Sentence.due(x.quiet(room, other, 1), below);
    }

    private static void quiet() {
        Sentence.asked("(not that in which one begins; Q of each): how likely. (From a ROOM to itself: 1 by 1.)");
        LostMuseum x = Check.of("room 0;room 0;room 0;door 0 1 0 0;door 1 0 0 0;door 1 2 0 0;warder 0 0;warder 1 4;warder 2 12;");
        Sentence.there(3, r -> x.quiet(r, 0, 0));
        Sentence.there(3, r -> x.quiet(0, r, 0));
        Sentence.range(0, 1, part -> x.quiet(0, 1, part));
        Sentence.range(0, 1, part -> x.quiet(0, 0, part));
        Sentence.missing(() -> x.quiet(3, 0, 2));
        Sentence.missing(() -> x.quiet(0, 3, 2));
        quietIs(x, 0, 0, 1, 1);
        quietIs(x, 1, 1, 1, 1);
        quietIs(x, 0, 1, 1, 4);
        quietIs(x, 0, 2, 3, 16);
        quietIs(x, 1, 2, 3, 4);
        Sentence.promise(30, "0 by 1: no way, or it can't be so.");
        quietIs(x, 2, 0, 0, 1);
        quietIs(x, 2, 1, 0, 1);
        quietIs(x, 1, 0, 0, 1);
        LostMuseum past = Check.of("room 0;room 0;room 0;door 0 1 0 0;door 1 2 0 0;warder 1 0;");
        quietIs(past, 0, 2, 0, 1);
        quietIs(past, 1, 2, 1, 1);
        Sentence.asked("of ways by PLAN (no ROOM twice) the one by which it is likeliest that all warders sleep in the ROOMS one comes to");
        LostMuseum longer = Check.of(row(10) + "door 0 9 0 0;warder 9 15;warder 1 15;");
        quietIs(longer, 0, 9, 15, 16);
        StringBuilder backwards = new StringBuilder("room 0;".repeat(10));
        for (int i = 8; i >= 0; i--) {
            backwards.append("door ").append(i).append(' ').append(i + 1).append(" 0 0;");
        }
        quietIs(Check.of(backwards + "warder 9 5;warder 1 8;"), 0, 9, 5, 32);
        LostMuseum rather = Check.of("room 0;room 0;room 0;door 0 2 0 0;door 0 1 0 0;door 1 2 0 0;warder 2 7;");
        quietIs(rather, 0, 2, 7, 16);
        LostMuseum round = Check.of("room 0;room 0;room 0;room 0;door 0 1 0 0;door 1 3 0 0;door 0 2 0 0;door 2 3 0 0;warder 1 5;warder 2 6;");
        quietIs(round, 0, 3, 3, 8);
    }

    private static void quietLeastTerms() {
        Sentence.promise(30, "QUIET: above (part 0), below (part 1), in least terms");
        int[] q = {1, 2, 3, 8, 15, 16};
        long[] above = {1, 1, 19683, 1, 38443359375L, 1};
        long[] below = {1L << 36, 1L << 27, 1L << 36, 512, 1L << 36, 1};
        for (int i = 0; i < q.length; i++) {
            StringBuilder b = new StringBuilder(row(10));
            for (int r = 0; r < 10; r++) {
                b.append("warder ").append(r).append(' ').append(q[i]).append(';');
            }
            quietIs(Check.of(b.toString()), 0, 9, above[i], below[i]);
        }
        LostMuseum x = Check.of("room 0;room 0;room 0;door 0 1 0 0;door 1 2 0 0;warder 1 6;warder 2 10;");
        quietIs(x, 0, 1, 3, 8);
        quietIs(x, 0, 2, 15, 64);
    }

    private static void way() {
        Sentence.promise(31, "How many DOORS the fewest are by which one comes from ROOM to ROOM by PLAN; NONE.");
        LostMuseum x = Check.of(row(10));
        Sentence.there(10, r -> x.way(r, 0));
        Sentence.there(10, r -> x.way(0, r));
        Sentence.due(x.way(0, 0), 0);
        Sentence.due(x.way(9, 9), 0);
        Sentence.due(x.way(0, 1), 1);
        Sentence.due(x.way(0, 9), 9);
        Sentence.due(x.way(1, 0), -1);
        Sentence.due(x.way(9, 0), -1);
        Sentence.due(Check.of(circle(10)).way(1, 0), 9);
    }

    private static void next() {
        Sentence.promise(32, "The DOOR to take first then, of these the least; NONE: no way, or one is there.");
        LostMuseum x = Check.of(row(10) + "door 0 1 0 0;");
        Sentence.there(10, r -> x.next(r, 0));
        Sentence.there(10, r -> x.next(0, r));
        Sentence.due(x.next(0, 0), -1);
        Sentence.due(x.next(9, 9), -1);
        Sentence.due(x.next(9, 0), -1);
        Sentence.due(x.next(0, 9), 0);
        Sentence.due(x.next(8, 9), 8);
        Check.work(x, "bar 0;");
        Sentence.due(x.next(0, 9), 9);
        Check.work(x, "bar 9;");
        Sentence.due(x.next(0, 9), -1);
        LostMuseum many = Check.of("room 0;room 0;room 0;door 0 1 0 0;" + "door 0 2 0 0;".repeat(22) + "door 1 2 0 0;");
        Sentence.due(many.next(0, 2), 1);
        Sentence.due(many.next(1, 2), 23);
    }

    private static void loop() {
        Sentence.promise(33, "The fewest DOORS (by PLAN; 1 at least) by which one comes from a ROOM back to it; NONE.");
        LostMuseum x = Check.of(circle(10));
        Sentence.there(10, x::loop);
        Sentence.due(x.loop(0), 10);
        Sentence.due(x.loop(9), 10);
        Sentence.due(Check.of(circle(2)).loop(1), 2);
        Sentence.due(Check.of(row(10)).loop(0), -1);
        Sentence.due(Check.of("room 0;").loop(0), -1);
        LostMuseum both = Check.of(circle(10) + "door 5 4 0 0;");
        Sentence.due(both.loop(5), 2);
        Sentence.due(both.loop(6), 10);
    }

    private static void closed() {
        Sentence.promise(34, "ROOMS from which no DOOR is open in an HOUR of this day (0 to 23), as bits (what 0), to which none is (1).");
        LostMuseum x = Check.of(APART + "room 0;door 0 1 0 0;door 1 0 23 23;");
        Sentence.range(0, 23, hour -> x.closed(hour, 0));
        Sentence.range(0, 1, what -> x.closed(0, what));
        Sentence.due(x.closed(0, 0), 6);
        Sentence.due(x.closed(0, 1), 5);
        Sentence.due(x.closed(1, 0), 7);
        Sentence.due(x.closed(22, 1), 7);
        Sentence.due(x.closed(23, 0), 5);
        Sentence.due(x.closed(23, 1), 6);
        Check.law(x, "1-day");
        Sentence.due(x.closed(23, 0), 4);
        Check.work(x, "again 23 [hour;];");
        Sentence.due(x.closed(0, 0), 4);
        Check.work(x, "hour;");
        Sentence.due(x.closed(0, 0), 7);
        Sentence.due(x.closed(23, 0), 7);
        Check.law(x, "day");
        Sentence.due(x.closed(0, 0), 4);
        Check.work(x, "bar 0;");
        Sentence.due(x.closed(0, 0), 5);
        Sentence.due(x.closed(0, 1), 6);
        x.undo();
        x.undo();
        x.undo();
        waitTill960(x);
        Check.law(x, "day-39");
        Sentence.due(x.closed(0, 0), 4);
        Sentence.due(x.closed(23, 0), 4);
        Check.law(x, "day-40");
        Sentence.due(x.closed(23, 0), 7);
        Sentence.due(Check.of("room 0;".repeat(10)).closed(0, 0), 1023);
        Sentence.due(Check.of("room 0;".repeat(10)).closed(0, 1), 1023);
    }

    private static void crowded() {
        Sentence.promise(35, "The ROOM in which most TOURS stand, of these the first (what 0), how many (1); NONE: there is no TOUR.");
        LostMuseum none = Check.of(row(10));
        Sentence.range(0, 1, none::crowded);
        Sentence.due(none.crowded(0), -1);
        Sentence.due(none.crowded(1), -1);
        LostMuseum six = Check.of("room 0;".repeat(10) + "tour 9;".repeat(6));
        Sentence.due(six.crowded(0), 9);
        Sentence.due(six.crowded(1), 6);
        LostMuseum even = Check.of("room 0;".repeat(10) + "tour 9;tour 8;tour 4;tour 9;tour 8;tour 4;");
        Sentence.due(even.crowded(0), 4);
        Sentence.due(even.crowded(1), 2);
        LostMuseum go = Check.of(row(2) + "tour 0;tour 1;");
        Sentence.due(go.crowded(0), 0);
        Sentence.due(go.crowded(1), 1);
        Check.work(go, "go 0 0;");
        Sentence.due(go.crowded(0), 1);
        Sentence.due(go.crowded(1), 2);
    }

    private static void worn() {
        Sentence.promise(36, "The DOOR that was used most (what 0), of these the first, how often (1); NONE: none was.");
        LostMuseum x = Check.of(APART + "door 0 1 0 23;".repeat(12) + "door 1 0 0 23;".repeat(12) + "tour 0;");
        Sentence.range(0, 1, x::worn);
        Sentence.due(x.worn(0), -1);
        Sentence.due(x.worn(1), -1);
        Check.work(x, "go 0 11;go 0 23;");
        Sentence.due(x.worn(0), 11);
        Sentence.due(x.worn(1), 1);
        Check.work(x, "go 0 0;go 0 23;");
        Sentence.due(x.worn(0), 23);
        Sentence.due(x.worn(1), 2);
        Check.work(x, "go 0 0;go 0 12;");
        Sentence.due(x.worn(0), 0);
        Sentence.due(x.worn(1), 2);
        x.undo();
        x.undo();
        x.undo();
        Sentence.due(x.worn(0), -1);
        Sentence.due(Check.of("room 0;").worn(1), -1);
    }

    /** The document's words in numbers of 64 bits, of which the lower 32 are kept. */
    private static long drawn(long seed) {
        return (seed * 1103515245L + 12345L) & 0xffffffffL;
    }

    private static int draw(long seed) {
        return (int) (seed / 65536 % 32768);
    }

    private static void sleepwalk() {
        Sentence.promise(37, "SLEEPWALK of so many HOURS (0 to 96): 0 the ROOM, 1 how many ROOMS one has been in, 2 how often one went through a DOOR.");
        LostMuseum x = Check.of(circle(10));
        Sentence.there(10, r -> x.sleepwalk(1, r, 0, 0));
        Sentence.range(0, 96, hours -> x.sleepwalk(1, 0, hours, 0));
        Sentence.range(0, 2, what -> x.sleepwalk(1, 0, 0, what));
        Sentence.missing(() -> x.sleepwalk(1, 10, 97, 3));
        Sentence.missing(() -> x.sleepwalk(1, -1, -1, -1));
        int[] hours = {0, 1, 8, 9, 10, 95, 96};
        for (int h : hours) {
            Sentence.due(x.sleepwalk(7, 3, h, 0), (3 + h) % 10);
            Sentence.due(x.sleepwalk(7, 3, h, 1), Math.min(10, h + 1));
            Sentence.due(x.sleepwalk(7, 3, h, 2), h);
        }
        LostMuseum one = Check.of("room 0;");
        Sentence.due(one.sleepwalk(1, 0, 96, 0), 0);
        Sentence.due(one.sleepwalk(1, 0, 96, 1), 1);
        Sentence.due(one.sleepwalk(1, 0, 96, 2), 0);
    }

    private static void sleepwalkDraws() {
        Sentence.asked("DRAW: the SEED (32 bits) becomes itself times 1,103,515,245, and 12,345 (it wraps); its bits 16 to 30, what is left of them.");
        // Of n doors from room 0 each leads to another room; but for 8 and 9 that has no way on.
        for (int doors = 1; doors <= 9; doors++) {
            StringBuilder b = new StringBuilder("room 0;".repeat(10));
            for (int i = 1; i <= doors; i++) {
                b.append("door 0 ").append(i).append(" 0 23;");
            }
            LostMuseum x = Check.of(b.toString());
            for (int seed : new int[] {0, 1, 2, 3, 99, -1, -2, LOW, LOW + 1, HIGH, HIGH - 1, 0x12345678, 0x87654321, 1 << 16}) {
                Sentence.due(x.sleepwalk(seed, 0, 1, 0), 1 + draw(drawn(seed)) % doors);
            }
        }
        LostMuseum x = Check.of(star(10));
        for (int seed : new int[] {0, 5, -5, LOW, HIGH}) {
            long s = seed;
            int been = 1;
            for (int h = 1; h <= 40; h++) {
                s = drawn(s);
                int room = h % 2 == 0 ? 0 : 1 + draw(s) % 9;
                been |= 1 << room;
                Sentence.due(x.sleepwalk(seed, 0, h, 0), room);
            }
            Sentence.due(x.sleepwalk(seed, 0, 40, 1), Integer.bitCount(been));
        }
    }

    private static void sleepwalkStays() {
        Sentence.asked("of the DOORS from that ROOM that are open in that HOUR, by number, one goes through the one that is DRAW by how many there are (none: one stays, without a DRAW)");
        LostMuseum x = Check.of("room 0;".repeat(8) + "door 0 1 5 5;door 0 2 4 4;door 0 3 5 5;door 0 4 6 6;door 0 5 5 5;door 1 0 5 5;"
            + "door 0 6 5 5;door 0 7 5 5;");
        int[] open = {1, 3, 5, 6, 7};
        Check.work(x, "bar 1;");
        for (int seed = -20; seed < 20; seed++) {
            Sentence.due(x.sleepwalk(seed, 0, 5, 0), 0);
            Sentence.due(x.sleepwalk(seed, 0, 6, 0), open[draw(drawn(seed)) % 5]);
        }
        Sentence.due(x.sleepwalk(1, 0, 5, 1), 1);
        Sentence.due(x.sleepwalk(1, 0, 5, 2), 0);
        Sentence.due(x.sleepwalk(1, 0, 6, 2), 1);
        Check.work(x, "bar 0;bar 4;bar 6;bar 7;");
        Sentence.due(x.sleepwalk(1, 0, 6, 0), 3);
    }

    private static void sleepwalkFar() {
        Sentence.asked("SLEEPWALK by a SEED: from a ROOM on for so many HOURS: in each");
        LostMuseum x = Check.of(row(2));
        Check.law(x, "day/3*(hour/23)");
        Sentence.due(x.sleepwalk(1, 0, 95, 0), 0);
        Sentence.due(x.sleepwalk(1, 0, 96, 0), 1);
        Check.law(x, "day/4");
        Sentence.due(x.sleepwalk(1, 0, 96, 0), 0);
        waitTill960(x);
        Check.law(x, "day/43*(hour/23)");
        Sentence.due(x.sleepwalk(1, 0, 95, 0), 0);
        Sentence.due(x.sleepwalk(1, 0, 96, 0), 1);
    }

    private static void span() {
        Sentence.promise(38, "by how many one is in another ROOM then (what 0), was in it at any time (1)");
        LostMuseum x = Check.of(circle(10));
        Sentence.there(10, r -> x.span(1, 1, r, 0, 0, 0));
        Sentence.there(10, r -> x.span(1, 1, 0, 0, r, 0));
        Sentence.range(0, 96, hours -> x.span(1, 1, 0, hours, 0, 0));
        Sentence.range(0, 1, what -> x.span(1, 1, 0, 0, 0, what));
        Sentence.missing(() -> x.span(1, 0, 10, 97, 0, 2));
        Sentence.missing(() -> x.span(1, 41, 0, -1, 10, -1));
        Sentence.due(x.span(1, 40, 0, 0, 0, 0), 40);
        Sentence.due(x.span(1, 40, 0, 0, 0, 1), 40);
        Sentence.due(x.span(1, 40, 0, 0, 1, 1), 0);
        Sentence.due(x.span(1, 40, 0, 8, 9, 1), 0);
        Sentence.due(x.span(1, 40, 0, 9, 9, 1), 40);
        Sentence.due(x.span(1, 40, 0, 9, 9, 0), 40);
        Sentence.due(x.span(1, 40, 0, 10, 9, 0), 0);
        Sentence.due(x.span(1, 40, 0, 10, 9, 1), 40);
        Sentence.due(x.span(1, 40, 0, 96, 6, 0), 40);
        Sentence.due(x.span(1, 40, 0, 9, 0, 1), 40);
    }

    private static void spanSeeds() {
        Sentence.promise(38, "Of so many SEEDS (1 to 40; seed, seed and 1, ..)");
        LostMuseum x = Check.of(star(10));
        Sentence.range(1, 40, many -> x.span(1, many, 0, 1, 1, 0));
        Sentence.illegal(() -> x.span(1, 0, 0, 1, 1, 0));
        Sentence.due(x.span(1, 40, 0, 2, 0, 0), 40);
        Sentence.due(x.span(1, 40, 0, 3, 0, 0), 0);
        Sentence.due(x.span(1, 40, 0, 96, 0, 0), 40);
        for (int first : new int[] {0, -20, HIGH, HIGH - 20, LOW}) {
            for (int many : new int[] {1, 2, 39, 40}) {
                for (int other = 0; other < 3; other++) {
                    int found = 0;
                    for (int i = 0; i < many; i++) {
                        found += 1 + draw(drawn((long) first + i)) % 9 == other ? 1 : 0;
                    }
                    Sentence.due(x.span(first, many, 0, 1, other, 0), found);
                    Sentence.due(x.span(first, many, 0, 1, other, 1), other == 0 ? many : found);
                }
            }
        }
    }
}
