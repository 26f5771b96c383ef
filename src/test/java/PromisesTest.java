/** Each promise by hand: ordinary inputs, the edges that the document names, wrong inputs. */
public final class PromisesTest {
    /** Rooms 0 to 3 in a ring with a way aside: 0 to 1, 1 to 2 (8 to 20), 2 to 0, 2 to 3 (10 alone). */
    private static final String RING = "room 0;room 1;room 0;room 2;door 0 1 0 23;door 1 2 8 20;door 2 0 0 23;"
        + "door 2 3 10 10;exit 0;tour 0;tour 1;warder 1 8;warder 3 4;";

    public static void main(String[] args) {
        aNewObject();
        feed();
        museumWhole();
        museumFaults();
        law();
        lawFaults();
        work();
        workLimits();
        workFaults();
        walk();
        fault();
        undo();
        told();
        room();
        door();
        tour();
        open();
        fits();
        knows();
        slips();
        ends();
        soon();
        within();
        out();
        string();
        longest();
        lost();
        cuts();
        wing();
        round();
        last();
        meet();
        parted();
        quiet();
        way();
        next();
        loop();
        closed();
        crowded();
        worn();
        sleepwalk();
        span();
        image();
        restore();
        status();
        count();
        Check.end();
    }

    private static String times(String text, int n) {
        return text.repeat(n);
    }

    private static void aNewObject() {
        LostMuseum x = new LostMuseum();
        for (int what = 0; what <= 9; what++) {
            Check.same("1 told " + what, x.told(what), 0);
        }
        Check.same("1 fits", x.fits(), 0);
        Check.same("1 knows", x.knows(), 0);
        Check.same("1 fault", x.fault(), -1);
        Check.same("1 cuts", x.cuts(), 0);
        Check.same("1 lost", x.lost(2), 0);
        Check.same("1 longest", x.longest(0), -1);
        Check.same("1 undo", x.undo(), -1);
        Check.same("1 restore", x.restore(), -1);
        Check.missing("1 room", () -> x.room(0, 0));
        for (int what = 0; what <= 2; what++) {
            Check.same("1 count " + what, x.count(what), 0);
        }
    }

    private static void feed() {
        LostMuseum x = new LostMuseum();
        for (int i = 1; i <= 30; i++) {
            Check.same("2 feed", x.feed(-1, 0x20202020, 0, 1, i), 20 * i);
        }
        Check.same("2 feed beyond 600", x.feed(0, 0, 0, 0, 0), -1);
        Check.same("2 the tape stays", x.count(1), 600);
        Check.same("2 the first byte is the highest", x.museum(1), -9);
        Check.same("2 empty then", x.feed(0x726f6f6d, 0x20373b20, 0x20202020, 0x20202020, 0x20202020), 20);
        Check.same("2 of each the highest first", x.museum(20), 1);
        Check.same("2 room 7", x.room(0, 0), 7);
    }

    private static void museumWhole() {
        LostMuseum x = Check.of(RING);
        Check.same("3 rooms", x.told(0), 4);
        Check.same("3 the tape is empty", x.count(1), 0);
        Check.law(x, "1");
        Check.walk(x, "0;");
        Check.work(x, "bar 0;hour;go 1 1;");
        x.image();
        Check.load(x, "room 1;");
        Check.illegal("3 museum(-1)", () -> x.museum(-1));
        Check.illegal("3 museum(21)", () -> x.museum(21));
        Check.same("3 the tape stays", x.count(1), 20);
        Check.same("3 a fault", x.museum(20), -9);
        Check.same("3 a fault empties the tape", x.count(1), 0);
        Check.same("3 all stays: rooms", x.told(0), 4);
        Check.same("3 all stays: hour", x.told(3), 1);
        Check.same("3 all stays: walk", x.told(8), 1);
        Check.same("3 all stays: images", x.count(0), 1);
        Check.same("3 all stays: works", x.count(2), 1);
        Check.same("3 all stays: law", x.open(3, 0, 0) ? 1 : 0, 1);
        Check.same("3 rooms of another", Check.museum(x, " room7 ; room 007;door0 1 0 0;  "), 2);
        Check.same("3 hour 0", x.told(3), 0);
        Check.same("3 no walk", x.told(8), 0);
        Check.same("3 nothing barred", x.told(5), 0);
        Check.same("3 none refused", x.told(9), 0);
        Check.same("3 no images", x.count(0), 0);
        Check.same("3 nothing to undo", x.undo(), -1);
        Check.holds("3 no law", x.open(0, 0, 0) && !x.open(0, 1, 0));
        Check.same("3 an empty one", x.museum(0), 0);
        Check.same("3 sixty clauses", Check.museum(x, "room 0;" + times("exit 0;", 59)), 1);
        Check.same("3 all at most", Check.museum(x, times("room0;", 10) + times("door 0 9 0 0;", 24) + times("tour 9;", 6)), 10);
        Check.same("3 the last warder counts", Check.of("room 0;warder 0 3;warder 0 16;warder 0 0;").room(0, 2), 0);
    }

    private static void museumFault(String text, int kind, int place) {
        LostMuseum x = new LostMuseum();
        Check.same("3 museum(" + text + ")", Check.museum(x, text), kind - 10);
        Check.same("3 place in museum(" + text + ")", x.fault(), place);
    }

    private static void museumFaults() {
        museumFault("room", 1, 4);
        museumFault("room 1  ", 1, 8);
        museumFault("room 1 ,", 1, 7);
        museumFault("room ;", 1, 5);
        museumFault("room 1; 5;", 1, 8);
        museumFault(" rooms 1;", 1, 1);
        museumFault("roo 1;", 1, 0);
        museumFault("roomz 1;", 1, 0);
        museumFault("aroom 1;", 1, 0);
        museumFault("zoom 1;", 1, 0);
        museumFault("Room 1;", 1, 0);
        museumFault("room 1;;", 1, 7);
        museumFault("room 1;\u0000", 1, 7);
        museumFault("room 1;\u00e9", 1, 7);
        museumFault("room 1;room 8;", 2, 12);
        museumFault("room 99999999999999999999;", 2, 5);
        museumFault("room 4294967296;", 2, 5);
        museumFault("room 1;door 1 0 0 0;", 2, 12);
        museumFault("room 1;door 0 1 0 0;room 1;", 2, 14);
        museumFault("room 1;room 1;door 0 0 0 0;", 2, 21);
        museumFault("room 1;room 1;door 0 1 24 23;", 2, 23);
        museumFault("room 1;room 1;door 0 1 23 24;", 2, 26);
        museumFault("room 1;room 1;door 0 1 5 24;", 2, 25);
        museumFault("room 1;room 1;door 0 1 5 4;", 2, 25);
        museumFault("room 1;exit 1;", 2, 12);
        museumFault("room 1;tour 1;", 2, 12);
        museumFault("room 1;warder 1 1;", 2, 14);
        museumFault("room 1;warder 0 17;", 2, 16);
        museumFault(times("room 0;", 10) + " room 9;", 3, 71);
        museumFault("room 0;room 0;" + times("door 0 1 0 0;", 24) + "door x", 3, 326);
        museumFault("room 0;" + times("tour 0;", 7), 3, 49);
        museumFault("room 0;" + times("exit 0;", 59) + " exit 9;", 3, 421);
        museumFault("room 0;" + times("exit 0;", 59) + " exits 0;", 1, 421);
        museumFault("room 0;" + times("exit 0;", 59) + ";", 1, 420);
    }

    private static void lawIs(LostMuseum x, String text, int door, int hour, boolean open) {
        Check.same("4 law(" + text + ")", Check.law(x, text), 1);
        Check.same("4 " + text + " for door " + door + " at " + hour, x.open(door, hour % 24, hour / 24) ? 1 : 0, open ? 1 : 0);
    }

    private static void law() {
        LostMuseum x = Check.of(RING);
        lawIs(x, "plan", 1, 8, true);
        lawIs(x, "plan", 1, 7, false);
        lawIs(x, "plan - 1", 1, 8, false);
        lawIs(x, "1-plan", 1, 7, true);
        lawIs(x, "hour - 22", 0, 23, true);
        lawIs(x, "hour - 22", 0, 46, false);
        lawIs(x, "day", 0, 23, false);
        lawIs(x, "day", 0, 24, true);
        lawIs(x, "door - 2", 3, 0, true);
        lawIs(x, "door - 2", 2, 0, false);
        lawIs(x, "from - 1", 3, 0, true);
        lawIs(x, "to - 2", 3, 0, true);
        lawIs(x, "to - 2", 1, 0, false);
        lawIs(x, "sees", 3, 0, true);
        lawIs(x, "sees", 2, 0, false);
        lawIs(x, "sees - 1", 3, 0, true);
        lawIs(x, "1 - used", 0, 0, true);
        lawIs(x, "least[1,0]", 0, 0, false);
        lawIs(x, "most [ 1 , 0 ]", 0, 0, true);
        lawIs(x, "2 + 3 * 4 - 13", 0, 0, true);
        lawIs(x, "(2 + 3) * 4 - 20", 0, 0, false);
        lawIs(x, "10 - 5 - 5", 0, 0, false);
        lawIs(x, "100 / 10 / 10 * 2 - 1", 0, 0, true);
        lawIs(x, "0 - (0 - 7) / 2 - 2", 0, 0, true);
        lawIs(x, "0 - (0 - 7) / 2 - 3", 0, 0, false);
        lawIs(x, "2 + (0 - 7) % 4", 0, 0, false);
        lawIs(x, "7 % (0 - 4) - 2", 0, 0, true);
        lawIs(x, "1 + 7 / 0", 0, 0, true);
        lawIs(x, "1 - 7 / 0", 0, 0, true);
        lawIs(x, "0 + 7 % 0", 0, 0, false);
        lawIs(x, "999*999*999", 0, 0, true);
        lawIs(x, "999*999*999*3", 0, 0, false);
        lawIs(x, "0-999*999*999*3", 0, 0, true);
        lawIs(x, "((((((1))))))+((((((1))))))", 0, 0, true);
        lawIs(x, "least[most[least[most[least[most[1,2],3],4],5],6],7] - 6", 0, 0, false);
        lawIs(x, "least[most[least[most[least[most[1,2],3],4],5],6],7] - 5", 0, 0, true);
        String least = "0 - 2 * 32 * 32 * 32 * 32 * 32 * 32";
        lawIs(x, least, 0, 0, false);
        lawIs(x, "(" + least + ") / (0 - 1)", 0, 0, false);
        lawIs(x, "1 + (" + least + ") % (0 - 1)", 0, 0, true);
        Check.law(x, "plan");
        Check.work(x, "go 0 0;");
        lawIs(x, "1 - used", 0, 0, false);
        Check.work(x, "bar 0;");
        lawIs(x, "1", 0, 0, false);
        Check.load(x, times(" ", 151));
        Check.illegal("4 law(151)", () -> x.law(151));
        Check.illegal("4 law(-1)", () -> x.law(-1));
        Check.same("4 the tape stays", x.count(1), 160);
        Check.same("4 works stay by a law", x.count(2), 2);
    }

    private static void lawFault(String text, int kind, int place) {
        LostMuseum x = Check.of(RING);
        Check.law(x, "day");
        Check.same("4 law(" + text + ")", Check.law(x, text), kind - 10);
        Check.same("4 place in law(" + text + ")", x.fault(), place);
        Check.same("4 the tape is empty", x.count(1), 0);
        Check.holds("4 the law stays", !x.open(0, 1, 0) && x.open(1, 0, 1));
    }

    private static void lawFaults() {
        lawFault("", 1, 0);
        lawFault("   ", 1, 3);
        lawFault("-1", 1, 0);
        lawFault("1 +", 1, 3);
        lawFault("1 2", 1, 2);
        lawFault("1)", 1, 1);
        lawFault("(1", 1, 2);
        lawFault("(1]", 1, 2);
        lawFault("()", 1, 1);
        lawFault("plans", 1, 0);
        lawFault("hour;", 1, 4);
        lawFault("1 * 1000", 2, 4);
        lawFault("99999999999", 2, 0);
        lawFault("least", 1, 5);
        lawFault("least(1,2)", 1, 5);
        lawFault("least[1]", 1, 7);
        lawFault("least[1,2", 1, 9);
        lawFault("most[1,2,3]", 1, 8);
        lawFault("most[1000,2]", 2, 5);
        lawFault("((((((( x", 3, 6);
        lawFault("(((((( least", 3, 7);
        lawFault("((((((most[", 3, 6);
        lawFault("((((((mosts", 1, 6);
        lawFault("least[1,least[1,least[1,least[1,least[1,least[1,(1)]]]]]]", 3, 48);
    }

    private static void work() {
        LostMuseum x = Check.of(RING);
        Check.same("5 an empty work", x.work(0), 0);
        Check.same("5 it can be undone", x.count(2), 1);
        Check.same("5 steps", Check.work(x, "go 0 0; hour;go 0 1;bar 2;bar 2;unbar 3;unbar 2 ;"), 4);
        Check.same("5 refused", x.told(9), 3);
        Check.same("5 tour 0 met tour 1", x.told(7), 1);
        Check.same("5 it stands in 1", x.tour(0), 1);
        Check.same("5 used", x.door(0, 6), 1);
        Check.same("5 not there: refused", Check.work(x, "go 0 0;"), 0);
        Check.same("5 agains", Check.work(x, "again 2 [hour;again 3 [hour;];];again 0 [hour;];again 5 [];"), 8);
        Check.same("5 hour", x.told(3), 9);
        Check.same("5 both go on", Check.work(x, "go 0 1;go 1 1;hour;go 0 3;go 1 3;hour;go 0 2;"), 6);
        Check.same("5 open in its hour alone", x.tour(1), 3);
        Check.same("5 met again, twice", x.told(7), 3);
        Check.same("5 a barred door is not open", Check.work(x, "bar 2;go 0 2;"), 1);
        Check.law(x, "1 - used");
        LostMuseum z = Check.of("room 0;room 0;door 0 1 0 23;door 1 0 0 23;tour 0;");
        Check.law(z, "2 - used");
        Check.same("5 used counts at once", Check.work(z, "again 9 [go 0 0;go 0 1;];"), 4);
        Check.same("5 refused then", z.told(9), 14);
    }

    private static void workLimits() {
        LostMuseum x = Check.of(RING);
        Check.same("5 two hundred steps", Check.work(x, "again 30 [hour;hour;hour;hour;hour;hour;];again 30 [hour;];"), 198);
        Check.same("5 the hour", x.told(3), 198);
        Check.same("5 refused ones count", Check.work(x, "again 30 [unbar 0;unbar 0;unbar 0;unbar 0;unbar 0;unbar 0;];again 30 [hour;];"), 18);
        Check.same("5 refused", x.told(9), 180);
        Check.same("5 agains count, come to again", Check.work(x, "again 30 [again 5 [];again 5 [];again 5 [];];again 30 [again 1 [again 1 [again 1 [hour;];];];];"), 27);
        for (int i = 0; i < 4; i++) {
            Check.work(x, "again 30 [hour;hour;hour;hour;hour;hour;hour;];");
        }
        Check.same("5 towards 960", x.told(3), 960);
        Check.holds("5 some were refused at 960", x.told(9) > 0);
        Check.same("5 refused from 960 on", Check.work(x, "hour;hour;"), 0);
        Check.same("5 still 960", x.told(3), 960);
        for (int i = x.count(2); i < 16; i++) {
            Check.same("5 one more", x.work(0), 0);
        }
        Check.walk(x, "x");
        Check.load(x, "nonsense");
        Check.illegal("5 n ahead of -20", () -> x.work(151));
        Check.same("5 a fault stays by that", x.fault(), 0);
        Check.same("5 sixteen works are there", x.work(8), -20);
        Check.same("5 no fault", x.fault(), -1);
        Check.same("5 the tape is empty", x.count(1), 0);
        Check.same("5 refused stays", x.told(9), 0);
        Check.same("5 undo makes room", x.undo(), 15);
        Check.same("5 one more again", x.work(0), 0);
        Check.load(x, times(" ", 160));
        Check.illegal("5 work(151)", () -> x.work(151));
        x.undo();
        Check.same("5 work(150)", x.work(150), 0);
    }

    private static void workFault(String text, int kind, int place) {
        LostMuseum x = Check.of(RING);
        Check.work(x, "bar 1;bar 1;");
        Check.same("5 work(" + text + ")", Check.work(x, text), kind - 10);
        Check.same("5 place in work(" + text + ")", x.fault(), place);
        Check.same("5 none is done", x.told(3), 0);
        Check.same("5 none to undo", x.count(2), 1);
        Check.same("5 refused stays", x.told(9), 1);
    }

    private static void workFaults() {
        workFault("hour;hour", 1, 9);
        workFault("hours;", 1, 0);
        workFault("hour;;", 1, 5);
        workFault("hour;];", 1, 5);
        workFault("hour;go 0;", 1, 9);
        workFault("hour;go 2 0;", 2, 8);
        workFault("hour;go 0 4;", 2, 10);
        workFault("bar 4;", 2, 4);
        workFault("unbar 4;", 2, 6);
        workFault("bar;", 1, 3);
        workFault("again 31 [];", 2, 6);
        workFault("again [];", 1, 6);
        workFault("again 3 hour;", 1, 8);
        workFault("again 3 [hour];", 1, 13);
        workFault("again 3 [hour;", 1, 14);
        workFault("again 3 [hour;]", 1, 15);
        workFault("again 3 [hour;] hour;", 1, 16);
        workFault(times("again 1 [", 6) + " again 99", 3, 55);
        workFault(times("again 1 [", 6) + " agains", 1, 55);
        LostMuseum x = Check.of(RING);
        Check.same("5 six are fine", Check.work(x, times("again 2[", 6) + "hour;" + times("];", 6)), 64);
    }

    private static void walk() {
        LostMuseum x = Check.of(RING);
        Check.same("6 lines", Check.walk(x, " 0 ;7; 003; "), 3);
        Check.same("6 told", x.told(8), 3);
        Check.same("6 eight", Check.walk(x, "0;8;"), -8);
        Check.same("6 place", x.fault(), 2);
        Check.same("6 it stays", x.told(8), 3);
        Check.same("6 no end", Check.walk(x, "0;1"), -9);
        Check.same("6 place", x.fault(), 3);
        Check.same("6 a word", Check.walk(x, "0;a;"), -9);
        Check.same("6 place", x.fault(), 2);
        Check.same("6 thirteen", Check.walk(x, times("1;", 12) + "  1"), -7);
        Check.same("6 at its L", x.fault(), 26);
        Check.same("6 thirteenth is none such", Check.walk(x, times("1;", 12) + "8"), -8);
        Check.same("6 thirteenth can't stand", Check.walk(x, times("1;", 12) + ";"), -9);
        Check.same("6 twelve", Check.walk(x, times("1;", 12)), 12);
        Check.load(x, times(" ", 80));
        Check.illegal("6 walk(61)", () -> x.walk(61));
        Check.same("6 walk(60)", x.walk(60), 0);
    }

    private static void fault() {
        LostMuseum x = Check.of(RING);
        Check.same("7 none", x.fault(), -1);
        Check.walk(x, "0;9;");
        Check.same("7 a place", x.fault(), 2);
        Check.illegal("7 no text", () -> x.law(1));
        Check.same("7 it stays", x.fault(), 2);
        x.undo();
        x.image();
        x.restore();
        Check.same("7 it stays", x.fault(), 2);
        x.walk(0);
        Check.same("7 gone", x.fault(), -1);
    }

    private static void undo() {
        LostMuseum x = Check.of(RING);
        Check.work(x, "go 0 0;bar 0;");
        Check.work(x, "hour;unbar 0;unbar 0;");
        Check.same("8 one left", x.undo(), 1);
        Check.same("8 hour", x.told(3), 0);
        Check.same("8 barred", x.door(0, 4), 1);
        Check.same("8 none refused behind it", x.told(9), 0);
        Check.same("8 met", x.told(7), 1);
        Check.same("8 none left", x.undo(), 0);
        Check.same("8 met", x.told(7), 0);
        Check.same("8 used", x.told(6), 0);
        Check.same("8 barred", x.told(5), 0);
        Check.same("8 tour", x.tour(0), 0);
        Check.same("8 there is none", x.undo(), -1);
    }

    private static void told() {
        LostMuseum x = Check.of(RING);
        Check.walk(x, "0;1;");
        Check.work(x, "go 0 0;hour;bar 1;bar 3;bar 3;");
        int[] due = {4, 4, 2, 1, 2, 2, 1, 1, 2, 1};
        for (int what = 0; what < due.length; what++) {
            Check.same("9 told " + what, x.told(what), due[what]);
        }
        Check.illegal("9 told -1", () -> x.told(-1));
        Check.illegal("9 told 10", () -> x.told(10));
        x.undo();
        Check.same("9 refused behind undo", x.told(9), 0);
    }

    private static void room() {
        LostMuseum x = Check.of(RING);
        Check.work(x, "go 0 0;again 10 [hour;];");
        int[] due = {0, 1, 16, 0, 1, 1};
        int[] of1 = {1, 0, 8, 2, 1, 1};
        int[] of2 = {0, 0, 16, 0, 2, 1};
        int[] of3 = {2, 0, 4, 0, 0, 1};
        for (int what = 0; what < 6; what++) {
            Check.same("10 room 0 " + what, x.room(0, what), due[what]);
            Check.same("10 room 1 " + what, x.room(1, what), of1[what]);
            Check.same("10 room 2 " + what, x.room(2, what), of2[what]);
            Check.same("10 room 3 " + what, x.room(3, what), of3[what]);
        }
        Check.work(x, "hour;bar 2;");
        Check.same("10 none open from 2", x.room(2, 4), 0);
        Check.same("10 none open to 0", x.room(0, 5), 0);
        Check.missing("10 room -1", () -> x.room(-1, 9));
        Check.missing("10 room 4", () -> x.room(4, 0));
        Check.illegal("10 what -1", () -> x.room(0, -1));
        Check.illegal("10 what 6", () -> x.room(0, 6));
    }

    private static void door() {
        LostMuseum x = Check.of(RING);
        int[] due = {1, 2, 8, 20, 0, 0, 0};
        for (int what = 0; what < 7; what++) {
            Check.same("11 door 1 " + what, x.door(1, what), due[what]);
        }
        Check.work(x, "again 8 [hour;];go 1 1;");
        Check.same("11 open now", x.door(1, 5), 1);
        Check.same("11 used", x.door(1, 6), 1);
        Check.work(x, "bar 1;");
        Check.same("11 barred", x.door(1, 4), 1);
        Check.same("11 not open", x.door(1, 5), 0);
        Check.missing("11 door 4", () -> x.door(4, 9));
        Check.missing("11 door -1", () -> x.door(-1, 0));
        Check.illegal("11 what 7", () -> x.door(0, 7));
        Check.illegal("11 what -1", () -> x.door(0, -1));
    }

    private static void tour() {
        LostMuseum x = Check.of(RING);
        Check.same("12 tour 0", x.tour(0), 0);
        Check.same("12 tour 1", x.tour(1), 1);
        Check.work(x, "go 0 0;");
        Check.same("12 tour 0 then", x.tour(0), 1);
        Check.missing("12 tour 2", () -> x.tour(2));
        Check.missing("12 tour -1", () -> x.tour(-1));
    }

    private static void open() {
        LostMuseum x = Check.of(RING);
        Check.holds("13 first hour", x.open(1, 8, 0) && !x.open(1, 7, 0));
        Check.holds("13 last hour", x.open(1, 20, 99) && !x.open(1, 21, 99));
        Check.holds("13 one hour", x.open(3, 10, 5) && !x.open(3, 9, 5) && !x.open(3, 11, 5));
        Check.law(x, "day - 98");
        Check.holds("13 day 99", x.open(1, 0, 99) && !x.open(1, 23, 98));
        Check.work(x, "bar 1;");
        Check.holds("13 barred", !x.open(1, 0, 99));
        Check.missing("13 door 4", () -> x.open(4, 24, 0));
        Check.illegal("13 hour 24", () -> x.open(0, 24, 0));
        Check.illegal("13 hour -1", () -> x.open(0, -1, 0));
        Check.illegal("13 day 100", () -> x.open(0, 0, 100));
        Check.illegal("13 day -1", () -> x.open(0, 0, -1));
    }

    private static void fits() {
        LostMuseum x = Check.of(RING);
        Check.same("14 any room", x.fits(), 15);
        Check.walk(x, "0;");
        Check.same("14 rooms 0 and 2", x.fits(), 5);
        Check.walk(x, "0;0;");
        Check.same("14 from 2 to 0", x.fits(), 1);
        Check.walk(x, "0;1;0;2;");
        Check.same("14 room 3", x.fits(), 8);
        Check.walk(x, "2;0;");
        Check.same("14 nowhere", x.fits(), 0);
        Check.walk(x, "0;0;");
        Check.work(x, "bar 2;");
        Check.same("14 barred", x.fits(), 0);
    }

    private static void knows() {
        LostMuseum x = Check.of(RING);
        Check.same("15 by two", x.knows(), 2);
        Check.walk(x, "2;");
        Check.same("15 known", x.knows(), 0);
        Check.walk(x, "5;");
        Check.same("15 nowhere", x.knows(), 0);
        LostMuseum ring = Check.of("room 0;room 0;door 0 1 0 0;door 1 0 0 0;");
        Check.same("15 never", ring.knows(), -1);
        String line = "room 0;room 0;room 0;room 0;room 0;room 0;room 0;room 0;";
        for (int i = 0; i < 6; i++) {
            line += "door " + i + " " + (i + 1) + " 0 0;";
        }
        Check.same("15 six: the seventh room of a line", Check.of(line).knows(), 6);
        Check.same("15 seven are too many", Check.of(line + "door 6 7 0 0;").knows(), -1);
        LostMuseum two = Check.of("room 0;room 1;room 1;door 0 1 0 0;door 0 2 0 0;");
        Check.walk(two, "0;");
        Check.same("15 known now, whatever comes", two.knows(), 0);
        // Behind 0 one sees 1 (2) or 2 (3, 4); who knew by 1 sees 3 then in 5 or 6, who did not then knows.
        LostMuseum all = Check.of("room 0;room 0;room 1;room 2;room 2;room 3;room 3;room 4;room 5;room 6;door 0 2 0 0;"
            + "door 1 3 0 0;door 0 4 0 0;door 2 5 0 0;door 2 6 0 0;door 3 7 0 0;door 4 8 0 0;door 5 9 0 0;");
        Check.walk(all, "0;");
        Check.same("15 after as many rooms, whatever is seen", all.knows(), 3);
        LostMuseum once = Check.of("room 1;room 1;room 0;room 5;room 5;door 0 2 0 0;door 1 2 0 0;door 2 3 0 0;door 2 4 0 0;");
        Check.walk(once, "1;");
        Check.same("15 one, though two would not do", once.knows(), 1);
        Check.work(once, "bar 0;");
        Check.same("15 barred", once.knows(), 1);
    }

    private static void slips() {
        LostMuseum x = Check.of(RING);
        Check.same("16 empty", x.slips(0), 0);
        Check.same("16 none wrong", x.slips(1), -1);
        Check.walk(x, "0;1;0;2;");
        Check.same("16 right", x.slips(0), 0);
        Check.same("16 none wrong", x.slips(1), -1);
        Check.walk(x, "0;1;2;");
        Check.same("16 one", x.slips(0), 1);
        Check.same("16 the last", x.slips(1), 2);
        Check.walk(x, "7;7;7;");
        Check.same("16 all", x.slips(0), 3);
        Check.same("16 the first", x.slips(1), 0);
        Check.walk(x, "0;0;0;");
        Check.same("16 by the way on which it comes latest", x.slips(1), 2);
        Check.same("16 one", x.slips(0), 1);
        LostMuseum line = Check.of("room 0;room 1;door 0 1 0 0;");
        Check.walk(line, "0;1;0;");
        Check.same("16 none is long enough", line.slips(0), -1);
        Check.same("16 none is long enough", line.slips(1), -1);
        LostMuseum none = new LostMuseum();
        Check.walk(none, "0;");
        Check.same("16 no room", none.slips(0), -1);
        Check.work(x, "bar 0;bar 1;bar 2;bar 3;");
        Check.same("16 barred", x.slips(0), -1);
        Check.illegal("16 what 2", () -> x.slips(2));
        Check.illegal("16 what -1", () -> x.slips(-1));
    }

    private static void ends() {
        LostMuseum x = Check.of(RING);
        Check.holds("17 any", x.ends(3));
        Check.walk(x, "0;1;");
        Check.holds("17 room 1", x.ends(1) && !x.ends(0) && !x.ends(2));
        Check.missing("17 room 4", () -> x.ends(4));
        Check.missing("17 room -1", () -> x.ends(-1));
    }

    private static void soon() {
        LostMuseum x = Check.of(RING);
        Check.same("18 here", x.soon(1, 1), 0);
        Check.same("18 one hour", x.soon(0, 1), 1);
        Check.same("18 waits till 8", x.soon(0, 2), 9);
        Check.same("18 waits till 10", x.soon(0, 3), 11);
        Check.same("18 never", x.soon(3, 0), -1);
        Check.work(x, "again 11 [hour;];");
        Check.same("18 tomorrow", x.soon(2, 3), 24);
        Check.law(x, "day - 3 + least[hour - 10, 0]");
        Check.same("18 from hour 11: day 4 at 10 is 95 away", x.soon(2, 3), 96);
        Check.law(x, "day - 3 + least[hour - 11, 0]");
        Check.same("18 beyond 96", x.soon(2, 3), -1);
        Check.law(x, "1");
        Check.work(x, "bar 3;");
        Check.same("18 barred", x.soon(2, 3), -1);
        Check.missing("18 room 4", () -> x.soon(4, 0));
        Check.missing("18 other -1", () -> x.soon(0, -1));
    }

    private static void within() {
        LostMuseum x = Check.of(RING);
        Check.same("19 none", x.within(0, 0), 1);
        Check.same("19 one", x.within(0, 1), 3);
        Check.same("19 eight", x.within(0, 8), 3);
        Check.same("19 nine", x.within(0, 9), 7);
        Check.same("19 eleven", x.within(0, 11), 15);
        Check.same("19 all", x.within(3, 96), 8);
        Check.missing("19 room 4", () -> x.within(4, 97));
        Check.illegal("19 97", () -> x.within(0, 97));
        Check.illegal("19 -1", () -> x.within(0, -1));
    }

    private static void out() {
        LostMuseum x = Check.of(RING);
        Check.same("20 at it", x.out(0), 0);
        Check.same("20 from 2", x.out(2), 1);
        Check.same("20 from 1", x.out(1), 10);
        Check.same("20 from 3", x.out(3), -1);
        Check.same("20 no exit", Check.of("room 0;").out(0), -1);
        Check.same("20 the nearer", Check.of("room 0;room 0;room 0;door 0 1 5 5;door 0 2 3 3;exit 1;exit 2;").out(0), 4);
        Check.missing("20 room 4", () -> x.out(4));
    }

    private static void string() {
        LostMuseum x = Check.of(RING);
        Check.same("21 at it", x.string(0), 0);
        Check.same("21 to 3", x.string(3), 3);
        Check.work(x, "bar 0;");
        Check.same("21 barred", x.string(3), -1);
        Check.same("21 no exit", Check.of("room 0;").string(0), -1);
        Check.same("21 from the nearer", Check.of("room 0;room 0;room 0;door 0 1 0 0;door 1 2 0 0;exit 0;exit 1;").string(2), 1);
        Check.missing("21 room -1", () -> x.string(-1));
    }

    private static void longest() {
        LostMuseum x = Check.of(RING);
        Check.same("22 it", x.longest(0), 3);
        Check.same("22 the room", x.longest(1), 3);
        LostMuseum fan = Check.of("room 0;room 0;room 0;room 0;door 3 2 0 0;door 3 1 0 0;exit 3;");
        Check.same("22 it", fan.longest(0), 1);
        Check.same("22 the first of them", fan.longest(1), 1);
        LostMuseum one = Check.of("room 0;room 0;exit 1;");
        Check.same("22 none but the exit's", one.longest(0), 0);
        Check.same("22 the exit", one.longest(1), 1);
        Check.same("22 no exit", Check.of("room 0;").longest(0), -1);
        Check.same("22 no exit", Check.of("room 0;").longest(1), -1);
        Check.illegal("22 what 2", () -> x.longest(2));
        Check.illegal("22 what -1", () -> x.longest(-1));
    }

    private static void lost() {
        LostMuseum x = Check.of("room 0;room 0;room 0;room 0;door 0 1 5 5;door 2 0 0 0;exit 0;");
        Check.same("23 lost", x.lost(0), 12);
        Check.same("23 caught", x.lost(1), 10);
        Check.same("23 both", x.lost(2), 8);
        Check.law(x, "0");
        Check.same("23 by plan", x.lost(0), 12);
        Check.work(x, "bar 0;");
        Check.same("23 barred", x.lost(0), 14);
        Check.same("23 no exit", Check.of("room 0;room 0;").lost(2), 3);
        Check.illegal("23 what 3", () -> x.lost(3));
        Check.illegal("23 what -1", () -> x.lost(-1));
    }

    private static void cuts() {
        Check.same("24 one room", Check.of("room 0;").cuts(), 0);
        Check.same("24 two apart", Check.of("room 0;room 0;").cuts(), 2);
        Check.same("24 ten apart", Check.of(times("room 0;", 10)).cuts(), 10);
        Check.same("24 one way", Check.of("room 0;room 0;door 0 1 5 5;").cuts(), 1);
        Check.same("24 ring and aside", Check.of(RING).cuts(), 1);
        Check.same("24 a star", Check.of("room 0;room 0;room 0;room 0;door 0 1 0 0;door 0 2 0 0;door 0 3 0 0;").cuts(), 3);
        Check.same("24 into one", Check.of("room 0;room 0;room 0;door 1 0 0 0;door 2 0 0 0;").cuts(), 2);
        LostMuseum x = Check.of("room 0;room 0;door 0 1 0 0;door 1 0 0 0;");
        Check.same("24 joined", x.cuts(), 0);
        Check.work(x, "bar 1;");
        Check.same("24 barred", x.cuts(), 1);
    }

    private static void wing() {
        LostMuseum x = Check.of(RING);
        Check.same("25 the ring", x.wing(1), 7);
        Check.same("25 aside", x.wing(3), 8);
        Check.work(x, "bar 1;");
        Check.same("25 barred", x.wing(1), 2);
        Check.missing("25 room 4", () -> x.wing(4));
    }

    private static void round() {
        LostMuseum x = Check.of(RING);
        Check.same("26 from 0", x.round(0), 3);
        Check.same("26 from 1", x.round(1), 5);
        Check.same("26 from 3", x.round(3), -1);
        Check.same("26 one room", Check.of("room 0;").round(0), 0);
        LostMuseum star = Check.of("room 0;room 0;room 0;room 0;door 0 1 0 0;door 1 0 0 0;door 0 2 0 0;door 2 0 0 0;door 0 3 0 0;door 3 0 0 0;");
        Check.same("26 a star", star.round(0), 5);
        Check.same("26 from a tip", star.round(2), 4);
        Check.work(star, "bar 5;");
        Check.same("26 the last has no way back", star.round(0), 5);
        Check.work(star, "bar 4;");
        Check.same("26 barred", star.round(0), -1);
        Check.missing("26 room 4", () -> x.round(4));
        StringBuilder ring = new StringBuilder(times("room 0;", 10));
        for (int i = 0; i < 10; i++) {
            ring.append("door ").append(i).append(' ').append((i + 1) % 10).append(" 0 0;");
        }
        Check.same("26 ten in a ring", Check.of(ring.toString()).round(4), 9);
    }

    private static void last() {
        Check.same("27 from 0", Check.of(RING).last(0), 3);
        Check.same("27 one room", Check.of("room 0;").last(0), 0);
        LostMuseum star = Check.of("room 0;room 0;room 0;room 0;door 0 1 0 0;door 1 0 0 0;door 0 2 0 0;door 2 0 0 0;door 0 3 0 0;door 3 0 0 0;");
        Check.same("27 the least", star.last(0), 1);
        Check.same("27 the least but where one began", star.last(1), 2);
        Check.work(star, "bar 5;");
        Check.same("27 only 3 can be last", star.last(0), 3);
        Check.work(star, "bar 3;");
        Check.same("27 none", star.last(0), -1);
        Check.missing("27 room 4", () -> star.last(4));
        Check.missing("27 room -1", () -> star.last(-1));
    }

    private static void meet() {
        LostMuseum x = Check.of(RING);
        Check.same("28 one room", x.meet(2, 2, 0), 0);
        Check.same("28 it", x.meet(2, 2, 1), 2);
        Check.same("28 one stays", x.meet(0, 1, 0), 1);
        Check.same("28 where", x.meet(0, 1, 1), 1);
        Check.same("28 three waits", x.meet(0, 3, 0), 3);
        Check.same("28 where", x.meet(0, 3, 1), 3);
        LostMuseum two = Check.of("room 0;room 0;room 0;room 0;door 3 2 0 0;door 1 2 0 0;door 3 0 0 0;door 1 0 0 0;");
        Check.same("28 the least", two.meet(3, 1, 1), 0);
        Check.same("28 never", two.meet(0, 2, 0), -1);
        Check.same("28 nowhere", two.meet(0, 2, 1), -1);
        Check.work(two, "bar 2;");
        Check.same("28 barred", two.meet(3, 1, 1), 2);
        Check.missing("28 room 4", () -> x.meet(4, 0, 2));
        Check.missing("28 other 4", () -> x.meet(0, 4, 2));
        Check.illegal("28 what 2", () -> x.meet(0, 1, 2));
        Check.illegal("28 what -1", () -> x.meet(0, 1, -1));
    }

    private static void parted() {
        LostMuseum x = Check.of(RING);
        Check.same("29 one", x.parted(0, 3, 0), 1);
        Check.same("29 the first", x.parted(0, 3, 1), 1);
        Check.same("29 no way", x.parted(3, 0, 0), 0);
        Check.same("29 no way", x.parted(3, 0, 1), 0);
        Check.same("29 one room", x.parted(1, 1, 0), -1);
        Check.same("29 one room", x.parted(1, 1, 1), 0);
        LostMuseum many = Check.of("room 0;room 0;" + times("door 0 1 0 0;", 24));
        Check.same("29 all", many.parted(0, 1, 0), 24);
        Check.same("29 all", many.parted(0, 1, 1), (1 << 24) - 1);
        LostMuseum back = Check.of("room 0;room 0;room 0;room 0;door 0 1 0 0;door 1 2 0 0;door 2 3 0 0;door 0 2 0 0;door 1 3 0 0;");
        Check.same("29 one is given back", back.parted(0, 3, 0), 2);
        Check.same("29 the first", back.parted(0, 3, 1), 1 + 4);
        LostMuseum order = Check.of(times("room 0;", 5) + "door 0 1 0 0;door 1 3 0 0;door 1 3 0 0;door 3 4 0 0;door 3 4 0 0;"
            + "door 2 3 0 0;door 2 3 0 0;door 0 2 0 0;");
        Check.same("29 doors rising: 0 and 7 ahead of 3 and 4", order.parted(0, 4, 1), 1 + 128);
        Check.work(x, "bar 0;");
        Check.same("29 barred", x.parted(0, 3, 0), 0);
        Check.missing("29 room 4", () -> x.parted(4, 0, 2));
        Check.missing("29 other -1", () -> x.parted(0, -1, 2));
        Check.illegal("29 what 2", () -> x.parted(0, 0, 2));
        Check.illegal("29 what -1", () -> x.parted(0, 0, -1));
    }

    private static void quietIs(LostMuseum x, int room, int other, long above, long below) {
        Check.same("30 above " + room + " " + other, x.quiet(room, other, 0), above);
        Check.same("30 below " + room + " " + other, x.quiet(room, other, 1), below);
    }

    private static void quiet() {
        LostMuseum x = Check.of(RING);
        quietIs(x, 0, 3, 1, 8);
        quietIs(x, 1, 3, 1, 4);
        quietIs(x, 1, 1, 1, 1);
        quietIs(x, 3, 0, 0, 1);
        quietIs(x, 0, 1, 1, 2);
        LostMuseum two = Check.of("room 0;room 0;room 0;room 0;door 0 1 0 0;door 1 3 0 0;door 0 2 0 0;door 2 3 0 0;"
            + "door 0 3 0 0;warder 1 5;warder 2 7;warder 3 0;warder 3 3;");
        quietIs(two, 0, 3, 3, 16);
        Check.work(two, "bar 4;");
        quietIs(two, 0, 3, 21, 256);
        Check.work(two, "bar 2;");
        quietIs(two, 0, 3, 15, 256);
        LostMuseum never = Check.of("room 0;room 0;door 0 1 0 0;warder 1 0;");
        quietIs(never, 0, 1, 0, 1);
        quietIs(never, 1, 1, 1, 1);
        StringBuilder line = new StringBuilder(times("room 0;", 10));
        for (int i = 0; i < 9; i++) {
            line.append("door ").append(i).append(' ').append(i + 1).append(" 0 0;warder ").append(i + 1).append(" 15;");
        }
        quietIs(Check.of(line.toString()), 0, 9, 38443359375L, 68719476736L);
        Check.missing("30 room 4", () -> x.quiet(4, 0, 2));
        Check.missing("30 other 4", () -> x.quiet(0, 4, 2));
        Check.illegal("30 part 2", () -> x.quiet(0, 0, 2));
        Check.illegal("30 part -1", () -> x.quiet(0, 0, -1));
    }

    private static void way() {
        LostMuseum x = Check.of(RING);
        Check.same("31 there", x.way(2, 2), 0);
        Check.same("31 three", x.way(0, 3), 3);
        Check.same("31 none", x.way(3, 0), -1);
        Check.law(x, "0");
        Check.same("31 by plan", x.way(0, 3), 3);
        Check.work(x, "bar 1;");
        Check.same("31 barred", x.way(0, 3), -1);
        Check.missing("31 room 4", () -> x.way(4, 0));
        Check.missing("31 other -1", () -> x.way(0, -1));
    }

    private static void next() {
        LostMuseum x = Check.of("room 0;room 0;room 0;room 0;door 0 1 0 0;door 0 2 0 0;door 2 3 0 0;door 0 2 0 0;door 1 2 0 0;");
        Check.same("32 the least", x.next(0, 3), 1);
        Check.same("32 there", x.next(3, 3), -1);
        Check.same("32 no way", x.next(3, 0), -1);
        Check.work(x, "bar 1;");
        Check.same("32 barred", x.next(0, 3), 3);
        Check.work(x, "bar 3;");
        Check.same("32 the long way", x.next(0, 3), 0);
        Check.missing("32 room 4", () -> x.next(4, 0));
        Check.missing("32 other 4", () -> x.next(0, 4));
    }

    private static void loop() {
        LostMuseum x = Check.of(RING);
        Check.same("33 the ring", x.loop(0), 3);
        Check.same("33 none", x.loop(3), -1);
        Check.same("33 two", Check.of("room 0;room 0;door 0 1 0 0;door 1 0 0 0;").loop(1), 2);
        Check.work(x, "bar 2;");
        Check.same("33 barred", x.loop(0), -1);
        Check.missing("33 room 4", () -> x.loop(4));
    }

    private static void closed() {
        LostMuseum x = Check.of(RING);
        Check.same("34 from", x.closed(0, 0), 10);
        Check.same("34 to", x.closed(0, 1), 12);
        Check.same("34 at ten", x.closed(10, 0), 8);
        Check.same("34 at ten", x.closed(10, 1), 0);
        Check.law(x, "day");
        Check.same("34 this day", x.closed(23, 0), 15);
        Check.work(x, "again 25 [hour;];");
        Check.same("34 the next day", x.closed(0, 0), 8);
        Check.work(x, "bar 0;");
        Check.same("34 barred", x.closed(0, 0), 9);
        Check.illegal("34 hour 24", () -> x.closed(24, 0));
        Check.illegal("34 hour -1", () -> x.closed(-1, 0));
        Check.illegal("34 what 2", () -> x.closed(0, 2));
        Check.illegal("34 what -1", () -> x.closed(0, -1));
    }

    private static void crowded() {
        LostMuseum x = Check.of(RING);
        Check.same("35 the first", x.crowded(0), 0);
        Check.same("35 one", x.crowded(1), 1);
        Check.work(x, "go 0 0;");
        Check.same("35 room 1", x.crowded(0), 1);
        Check.same("35 two", x.crowded(1), 2);
        Check.same("35 no tour", Check.of("room 0;").crowded(0), -1);
        Check.same("35 no tour", Check.of("room 0;").crowded(1), -1);
        Check.illegal("35 what 2", () -> x.crowded(2));
        Check.illegal("35 what -1", () -> x.crowded(-1));
    }

    private static void worn() {
        LostMuseum x = Check.of("room 0;room 0;door 0 1 0 23;door 1 0 0 23;tour 0;");
        Check.same("36 none", x.worn(0), -1);
        Check.same("36 none", x.worn(1), -1);
        Check.work(x, "go 0 0;go 0 1;");
        Check.same("36 the first", x.worn(0), 0);
        Check.same("36 once", x.worn(1), 1);
        Check.work(x, "go 0 0;go 0 1;go 0 0;");
        Check.same("36 thrice", x.worn(1), 3);
        Check.illegal("36 what 2", () -> x.worn(2));
        Check.illegal("36 what -1", () -> x.worn(-1));
    }

    private static void sleepwalk() {
        LostMuseum x = Check.of("room 0;room 0;room 0;door 0 1 0 23;door 0 2 0 23;door 1 0 5 5;tour 0;");
        // Seed 1 becomes 1103527590: its bits 16 to 30 are 16838.
        Check.same("37 even: the first", x.sleepwalk(1, 0, 1, 0), 1);
        Check.same("37 none", x.sleepwalk(1, 0, 0, 0), 0);
        Check.same("37 one room", x.sleepwalk(1, 0, 0, 1), 1);
        Check.same("37 no door", x.sleepwalk(1, 0, 0, 2), 0);
        Check.same("37 stays till 5", x.sleepwalk(1, 0, 5, 0), 1);
        Check.same("37 back at 6", x.sleepwalk(1, 0, 6, 0), 0);
        Check.same("37 two rooms", x.sleepwalk(1, 0, 6, 1), 2);
        Check.same("37 two doors", x.sleepwalk(1, 0, 6, 2), 2);
        int seed = 1;
        for (int i = 0; i < 3; i++) {
            seed = seed * 1103515245 + 12345;
        }
        int odd = (seed >>> 16 & 32767) % 2;
        LostMuseum y = Check.of("room 0;room 0;door 0 1 0 23;door 1 0 0 23;room 0;door 0 2 0 23;door 2 0 0 23;");
        Check.same("37 a draw for one door, too", y.sleepwalk(1, 0, 3, 0), odd == 0 ? 1 : 2);
        Check.same("37 far", y.sleepwalk(-1, 0, 96, 2), 96);
        Check.work(x, "bar 0;hour;");
        Check.same("37 barred", x.sleepwalk(1, 0, 1, 0), 2);
        Check.missing("37 room 3", () -> x.sleepwalk(1, 3, 97, 3));
        Check.illegal("37 hours 97", () -> x.sleepwalk(1, 0, 97, 0));
        Check.illegal("37 hours -1", () -> x.sleepwalk(1, 0, -1, 0));
        Check.illegal("37 what 3", () -> x.sleepwalk(1, 0, 0, 3));
        Check.illegal("37 what -1", () -> x.sleepwalk(1, 0, 0, -1));
    }

    private static void span() {
        LostMuseum x = Check.of("room 0;room 0;room 0;door 0 1 0 23;door 0 2 0 23;door 1 0 5 5;");
        int then = 0;
        int ever = 0;
        for (int i = 0; i < 40; i++) {
            then += x.sleepwalk(Integer.MAX_VALUE - 20 + i, 0, 6, 0) == 2 ? 1 : 0;
            boolean was = false;
            for (int h = 0; h <= 9; h++) {
                was |= x.sleepwalk(Integer.MAX_VALUE - 20 + i, 0, h, 0) == 2;
            }
            ever += was ? 1 : 0;
        }
        Check.same("38 then", x.span(Integer.MAX_VALUE - 20, 40, 0, 6, 2, 0), then);
        Check.same("38 at any time", x.span(Integer.MAX_VALUE - 20, 40, 0, 9, 2, 1), ever);
        Check.same("38 where one begins", x.span(3, 7, 0, 5, 0, 1), 7);
        Check.same("38 not there then", x.span(3, 7, 0, 5, 0, 0), 0);
        Check.same("38 no hour", x.span(3, 7, 0, 0, 0, 0), 7);
        Check.missing("38 room 3", () -> x.span(1, 41, 3, 1, 0, 0));
        Check.missing("38 other 3", () -> x.span(1, 41, 0, 1, 3, 0));
        Check.illegal("38 many 0", () -> x.span(1, 0, 0, 1, 0, 0));
        Check.illegal("38 many 41", () -> x.span(1, 41, 0, 1, 0, 0));
        Check.illegal("38 hours 97", () -> x.span(1, 1, 0, 97, 0, 0));
        Check.illegal("38 hours -1", () -> x.span(1, 1, 0, -1, 0, 0));
        Check.illegal("38 what 2", () -> x.span(1, 1, 0, 1, 0, 2));
        Check.illegal("38 what -1", () -> x.span(1, 1, 0, 1, 0, -1));
    }

    private static void image() {
        LostMuseum x = Check.of(RING);
        Check.same("39 one", x.image(), 1);
        Check.work(x, "go 0 0;bar 1;");
        Check.same("39 two", x.image(), 2);
        Check.work(x, "hour;");
        Check.same("39 three", x.image(), 3);
        Check.same("39 there are 3", x.image(), -1);
        Check.same("39 count", x.count(0), 3);
        x.undo();
        x.undo();
        Check.work(x, "bar 3;bar 3;");
        Check.same("39 two left", x.restore(), 2);
        Check.same("39 hour", x.told(3), 1);
        Check.same("39 barred", x.door(3, 4), 0);
        Check.same("39 works", x.count(2), 2);
        Check.same("39 works can be undone", x.undo(), 1);
        Check.same("39 hour", x.told(3), 0);
        Check.same("39 works can be undone", x.undo(), 0);
        Check.same("39 tour", x.tour(0), 0);
        LostMuseum y = Check.of(RING);
        Check.work(y, "hour;");
        y.image();
        Check.work(y, "hour;");
        y.undo();
        y.undo();
        Check.work(y, "bar 1;");
        Check.work(y, "bar 2;");
        y.image();
        y.undo();
        y.undo();
        Check.work(y, "hour;");
        Check.work(y, "hour;");
        Check.same("39 the later one first", y.restore(), 1);
        Check.same("39 one undone", y.undo(), 1);
        Check.same("39 barred", y.told(5), 1);
        Check.same("39 both undone", y.undo(), 0);
        Check.same("39 nothing barred", y.told(5), 0);
        Check.same("39 the earlier one", y.restore(), 0);
        Check.same("39 its hour", y.told(3), 1);
        Check.same("39 its work", y.undo(), 0);
        Check.same("39 ahead of it", y.told(3), 0);
    }

    private static void restore() {
        LostMuseum x = Check.of(RING);
        Check.same("40 there is none", x.restore(), -1);
        Check.work(x, "go 0 0;");
        x.image();
        Check.work(x, "bar 0;bar 0;");
        Check.law(x, "0");
        Check.walk(x, "0;");
        Check.same("40 none left", x.restore(), 0);
        Check.same("40 none refused behind it", x.told(9), 0);
        Check.same("40 barred", x.told(5), 0);
        Check.same("40 used", x.told(6), 1);
        Check.same("40 met", x.told(7), 1);
        Check.same("40 works", x.count(2), 1);
        Check.same("40 the walk stays", x.told(8), 1);
        Check.same("40 the law stays", x.told(4), 0);
        Check.same("40 it is gone", x.restore(), -1);
    }

    private static void status() {
        LostMuseum x = Check.of(RING);
        Check.same("41 none", x.status(0), 0);
        Check.same("41 none", x.status(1), 0);
        Check.missing("41", () -> x.room(9, 9));
        Check.missing("41", () -> x.door(9, 9));
        Check.missing("41", () -> x.tour(9));
        Check.missing("41", () -> x.span(0, 0, 0, 0, 9, 0));
        Check.illegal("41", () -> x.told(99));
        x.image();
        Check.illegal("41", () -> x.museum(1));
        Check.illegal("41", () -> x.open(0, 24, 100));
        x.restore();
        Check.same("41 four", x.status(0), 4);
        Check.same("41 three", x.status(1), 3);
        Check.same("41 another", x.status(2), -1);
        Check.same("41 another", x.status(-1), -1);
        x.museum(0);
        Check.same("41 no museum ends it", x.status(0), 4);
    }

    private static void count() {
        LostMuseum x = Check.of(RING);
        x.image();
        x.work(0);
        x.work(0);
        Check.load(x, "x");
        Check.same("42 images", x.count(0), 1);
        Check.same("42 bytes", x.count(1), 20);
        Check.same("42 works", x.count(2), 2);
        Check.same("42 another", x.count(3), -1);
        Check.same("42 another", x.count(-1), -1);
    }
}
