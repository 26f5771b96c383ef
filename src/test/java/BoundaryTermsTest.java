/** "Terms": each sentence that names a limit of a text, of its numbers or of its values, or a FAULT. */
public final class BoundaryTermsTest {
    private static final String TWO = "room 0;room 0;";
    private static final String PAIR = "room 0;room 0;door 0 1 0 23;door 1 0 0 23;tour 0;";

    public static void main(String[] args) {
        museumBytes();
        clauses();
        rooms();
        doorsThereAre();
        doorsEnds();
        doorsHours();
        exits();
        tours();
        warders();
        lawBytes();
        lawDeep();
        lawAboveNone();
        lawNumbers();
        lawWords();
        lawUsed();
        lawPairs();
        lawWraps();
        lawDivides();
        workBytes();
        workNumbers();
        againNumbers();
        walkLines();
        numbers();
        words();
        blanks();
        faultsFromTheLeft();
        faultsCantStand();
        faultsNoSuchNumber();
        faultsTooMany();
        faultsOpenAtOneTime();
        faultsOfOneTheLeast();
        Check.end();
    }

    private static String blanks(int n) {
        return " ".repeat(n);
    }

    private static void museumIs(String text, int rooms) {
        LostMuseum x = new LostMuseum();
        Sentence.due(Check.museum(x, text), rooms);
        Sentence.due(x.fault(), -1);
    }

    private static void museumFault(String text, int kind, int place) {
        LostMuseum x = new LostMuseum();
        Sentence.due(Check.museum(x, text), kind - 10);
        Sentence.due(x.fault(), place);
    }

    private static void lawIs(LostMuseum x, String text, boolean open) {
        Sentence.due(Check.law(x, text), 1);
        Sentence.due(x.fault(), -1);
        Sentence.due(x.open(0, 0, 0), open);
    }

    /** The value of a law for DOOR 0, by two laws that stand on either side of where it is open. */
    private static void lawValue(LostMuseum x, String text, int value) {
        lawIs(x, "(" + text + ")-" + (value - 1), true);
        lawIs(x, "(" + text + ")-" + value, false);
    }

    private static void lawFault(String text, int kind, int place) {
        LostMuseum x = Check.of(PAIR);
        Sentence.due(Check.law(x, text), kind - 10);
        Sentence.due(x.fault(), place);
    }

    private static void workFault(String text, int kind, int place) {
        LostMuseum x = Check.of(PAIR);
        Sentence.due(Check.work(x, text), kind - 10);
        Sentence.due(x.fault(), place);
    }

    private static void walkFault(String text, int kind, int place) {
        LostMuseum x = Check.of(PAIR);
        Sentence.due(Check.walk(x, text), kind - 10);
        Sentence.due(x.fault(), place);
    }

    private static void museumBytes() {
        Sentence.terms("A MUSEUM is a text of up to 600 bytes");
        museumIs("", 0);
        museumIs(blanks(600), 0);
        museumIs("room 1;" + blanks(586) + "room 2;", 2);
        museumIs(blanks(593) + "room 7;", 1);
        museumFault(blanks(594) + "room 7", 1, 600);
        museumFault(blanks(595) + "room7", 1, 600);
        museumFault(blanks(596) + "room", 1, 600);
        museumFault(blanks(599) + "5", 1, 599);
        museumFault("\u0000".repeat(600), 1, 0);
    }

    private static void clauses() {
        Sentence.terms("{ CLAUSE \";\" }, at most 60");
        String sixty = TWO + "exit 0;".repeat(58);
        museumIs("room 0;" + "exit 0;".repeat(58), 1);
        museumIs(sixty, 2);
        museumIs(sixty + blanks(3), 2);
        museumFault(sixty + "room 0;", 3, 420);
        museumFault(sixty + "door 0 1 0 0;", 3, 420);
        museumFault(sixty + "exit 0;", 3, 420);
        museumFault(sixty + "  tour 0;", 3, 422);
        museumFault(sixty + "warder 0 0;", 3, 420);
        museumFault(sixty + "exit", 3, 420);
        museumFault(sixty + "exit 9;", 3, 420);
        String mixed = TWO + "tour 0;".repeat(6) + "door 0 1 0 0;".repeat(24) + "warder1 3;".repeat(9) + "exit 1;".repeat(18);
        LostMuseum x = Check.of(mixed + "exit 0;");
        Sentence.due(x.room(0, 1), 1);
        museumFault(mixed + "exit 0;exit 0;", 3, mixed.length() + 7);
    }

    private static void rooms() {
        Sentence.terms("\"room\" L (ROOMS, numbered from 0 on, 10 at most: one sees L there, 0 to 7)");
        LostMuseum x = Check.of("room 0;room 1;room 2;room 3;room 4;room 5;room 6;room 7;room 0;room 7;");
        Sentence.due(x.told(0), 10);
        Sentence.there(10, r -> x.room(r, 0));
        for (int r = 0; r < 8; r++) {
            Sentence.due(x.room(r, 0), r);
        }
        Sentence.due(x.room(8, 0), 0);
        Sentence.due(x.room(9, 0), 7);
        museumFault("room 8;", 2, 5);
        museumFault("room 10;", 2, 5);
        museumFault("room 0;".repeat(10) + "room 0;", 3, 70);
        museumFault("room 0;".repeat(10) + "exit 9; room 0;", 3, 78);
    }

    private static void doorsThereAre() {
        Sentence.terms("\"door\" A B F T (DOORS likewise, 24");
        LostMuseum x = Check.of(TWO + "door 0 1 0 5;".repeat(23) + "door 1 0 7 9;");
        Sentence.due(x.told(1), 24);
        Sentence.there(24, d -> x.door(d, 0));
        Sentence.due(x.door(23, 0), 1);
        Sentence.due(x.door(23, 2), 7);
        Sentence.due(x.door(22, 0), 0);
        museumFault(TWO + "door 0 1 0 5;".repeat(24) + " door 0 1 0 5;", 3, 327);
        museumIs(TWO + "door 0 1 0 5;".repeat(24) + "exit 1;", 2);
    }

    private static void doorsEnds() {
        Sentence.terms("from ROOM A to B, not one, both told ahead");
        museumIs(TWO + "door 0 1 0 0;", 2);
        museumIs(TWO + "door 1 0 0 0;", 2);
        museumFault(TWO + "door 0 0 0 0;", 2, 21);
        museumFault(TWO + "door 1 1 0 0;", 2, 21);
        museumFault(TWO + "door 2 0 0 0;", 2, 19);
        museumFault(TWO + "door 0 2 0 0;", 2, 21);
        museumFault(TWO + "door 2 2 0 0;", 2, 19);
        museumFault("door 0 1 0 0;" + TWO, 2, 5);
        museumFault("room 0;door 0 1 0 0;room 0;", 2, 14);
        museumFault("room 0;door 1 0 0 0;room 0;", 2, 12);
        museumIs("room 0;".repeat(10) + "door 9 8 0 0;door 8 9 0 0;", 10);
        museumFault("room 0;".repeat(10) + "door 10 8 0 0;", 2, 75);
        museumFault("room 0;".repeat(10) + "door 8 10 0 0;", 2, 77);
    }

    private static void doorsHours() {
        Sentence.terms("open by the plan in HOURS of the day F to T, 0 to 23, T no less than F");
        LostMuseum x = Check.of(TWO + "door 0 1 0 0;door 0 1 23 23;door 0 1 5 7;door 0 1 0 23;");
        int[][] hours = {{0, 0}, {23, 23}, {5, 7}, {0, 23}};
        for (int d = 0; d < 4; d++) {
            for (int h = 0; h < 24; h++) {
                Sentence.due(x.open(d, h, d * 33), h >= hours[d][0] && h <= hours[d][1]);
            }
        }
        museumFault(TWO + "door 0 1 24 24;", 2, 23);
        museumFault(TWO + "door 0 1 23 24;", 2, 26);
        museumFault(TWO + "door 0 1 1 0;", 2, 25);
        museumFault(TWO + "door 0 1 23 22;", 2, 26);
        museumFault(TWO + "door 0 1 9 23;door 0 1 10 9;", 2, 40);
    }

    private static void exits() {
        Sentence.terms("\"exit\" R (ROOM R is an EXIT)");
        LostMuseum x = Check.of(TWO + "room 0;exit 2;exit 0;exit 2;");
        Sentence.due(x.room(0, 1), 1);
        Sentence.due(x.room(1, 1), 0);
        Sentence.due(x.room(2, 1), 1);
        museumFault("exit 0;", 2, 5);
        museumFault(TWO + "exit 2;", 2, 19);
    }

    private static void tours() {
        Sentence.terms("\"tour\" R (TOURS likewise, 6: in ROOM R at first)");
        LostMuseum x = Check.of(TWO + "tour 0;tour 1;tour 0;tour 0;tour 0;tour 1;");
        Sentence.due(x.told(2), 6);
        Sentence.there(6, x::tour);
        Sentence.due(x.tour(4), 0);
        Sentence.due(x.tour(5), 1);
        museumFault(TWO + "tour 0;".repeat(6) + "  tour 0;", 3, 58);
        museumIs(TWO + "tour 0;".repeat(6) + "room 0;", 3);
        museumFault("tour 0;", 2, 5);
        museumFault(TWO + "tour 2;", 2, 19);
    }

    private static void warders() {
        Sentence.terms("\"warder\" R Q (in ROOM R one is asleep by Q of 16, 0 to 16; the last counts; 16 without)");
        LostMuseum x = Check.of(TWO + "room 0;room 0;warder 0 0;warder 1 16;warder 2 0;warder 2 16;warder 2 5;");
        Sentence.due(x.room(0, 2), 0);
        Sentence.due(x.room(1, 2), 16);
        Sentence.due(x.room(2, 2), 5);
        Sentence.due(x.room(3, 2), 16);
        Sentence.due(Check.museum(x, TWO + "room 0;"), 3);
        Sentence.due(x.room(0, 2), 16);
        Sentence.due(x.room(2, 2), 16);
        museumFault(TWO + "warder 0 17;", 2, 23);
        museumFault(TWO + "warder 2 16;", 2, 21);
        museumFault(TWO + "warder 2 17;", 2, 21);
    }

    private static void lawBytes() {
        Sentence.terms("A LAW is a text of up to 150 bytes: E, at the end nothing more; without: plan");
        LostMuseum x = Check.of(TWO + "door 0 1 5 6;door 0 1 0 0;");
        Sentence.due(x.open(0, 5, 0) && x.open(0, 6, 0) && !x.open(0, 4, 0) && !x.open(0, 7, 0), true);
        String sum = "+1".repeat(73) + "-73";
        lawIs(x, "1" + sum, true);
        lawIs(x, "0" + sum, false);
        lawIs(x, "1*1" + "*1".repeat(73) + " ", true);
        lawIs(x, blanks(149) + "1", true);
        lawIs(x, "1" + blanks(149), true);
        Check.load(x, "1" + blanks(159));
        Sentence.illegal(() -> x.law(151));
        Sentence.due(x.law(150), 1);
        lawFault("", 1, 0);
        lawFault(blanks(150), 1, 150);
        lawFault(blanks(149) + "+", 1, 149);
        lawFault("1" + blanks(148) + "+", 1, 150);
        lawFault("1 1", 1, 2);
        lawFault("1;", 1, 1);
        lawFault("1]", 1, 1);
        lawFault("1,", 1, 1);
        lawFault("plan plan", 1, 5);
        lawFault("1)", 1, 1);
        Check.museum(x, TWO + "door 0 1 5 6;");
        Sentence.due(x.open(0, 5, 0) && !x.open(0, 0, 0), true);
    }

    /** All that can wait for a value at one time: three values in each of six that are open, and two behind them. */
    private static void lawDeep() {
        Sentence.terms("\"least\" \"[\" E \",\" E \"]\", \"most\" \"[\" E \",\" E \"]\", or \"(\" E \")\"");
        LostMuseum x = Check.of(PAIR);
        lawValue(x, "1+1*(".repeat(5) + "1+1*1" + ")".repeat(5), 7);
        lawIs(x, "1+1*(".repeat(6) + "1+1*1" + ")".repeat(6) + "-7", true);
        lawIs(x, "1+1*(".repeat(6) + "1+1*1" + ")".repeat(6) + "-8", false);
        lawIs(x, "1+1*most[9,".repeat(6) + "1+1*1" + "]".repeat(6) + "-9", true);
        lawIs(x, "1+1*most[9,".repeat(6) + "1+1*1" + "]".repeat(6) + "-10", true);
        lawIs(x, "1+1*most[9,".repeat(6) + "1+1*1" + "]".repeat(6) + "-14", true);
        lawIs(x, "1+1*most[9,".repeat(6) + "1+1*1" + "]".repeat(6) + "-15", false);
    }

    private static void lawAboveNone() {
        Sentence.terms("A DOOR that is not barred is open in an HOUR, if it is above 0");
        LostMuseum x = Check.of(PAIR);
        lawIs(x, "1", true);
        Sentence.due(x.told(4), 2);
        lawIs(x, "0", false);
        Sentence.due(x.told(4), 0);
        lawIs(x, "0-1", false);
        lawIs(x, "999", true);
        Check.work(x, "bar 0;");
        Sentence.due(x.open(0, 0, 0), false);
        Sentence.due(x.told(4), 1);
        Check.work(x, "unbar 0;");
        Sentence.due(x.open(0, 0, 0), true);
    }

    private static void lawNumbers() {
        Sentence.terms("U: N (0 to 999)");
        LostMuseum x = Check.of(PAIR);
        lawIs(x, "0", false);
        lawIs(x, "000", false);
        lawIs(x, "999-998", true);
        lawIs(x, "999-999", false);
        lawIs(x, "0000999", true);
        lawFault("1000", 2, 0);
        lawFault("1+1000", 2, 2);
        lawFault("least[1000,1]", 2, 6);
        lawFault("-1", 1, 0);
        lawFault("1+-1", 1, 2);
    }

    private static void lawWords() {
        LostMuseum x = Check.of("room 3;room 0;room 7;" + "door 0 1 5 6;" + "door 1 2 0 23;".repeat(22) + "door 2 0 5 6;");
        Sentence.terms("\"plan\" (1, if it is open by the plan, else 0)");
        Check.law(x, "plan");
        Sentence.due(x.open(0, 5, 0) && x.open(0, 6, 0) && !x.open(0, 4, 0) && !x.open(0, 7, 0), true);
        Check.law(x, "2-plan*2");
        Sentence.due(!x.open(0, 5, 0) && !x.open(0, 6, 0) && x.open(0, 4, 0) && x.open(0, 7, 0), true);
        Check.law(x, "plan-1");
        Sentence.due(x.open(0, 5, 0) || x.open(0, 4, 0), false);
        Check.law(x, "plan+1");
        Sentence.due(x.open(0, 5, 0) && x.open(0, 4, 0), true);
        Sentence.terms("\"hour\" (of the day)");
        Check.law(x, "hour");
        Sentence.due(!x.open(0, 0, 0) && x.open(0, 1, 0) && x.open(0, 23, 0) && !x.open(0, 0, 1), true);
        Check.law(x, "hour-22");
        Sentence.due(!x.open(0, 22, 7) && x.open(0, 23, 99) && !x.open(0, 0, 99), true);
        Sentence.terms("\"day\" (from 0 on)");
        Check.law(x, "day");
        Sentence.due(!x.open(0, 0, 0) && !x.open(0, 23, 0) && x.open(0, 0, 1) && x.open(0, 23, 1), true);
        Check.law(x, "day-98");
        Sentence.due(!x.open(0, 23, 98) && x.open(0, 0, 99), true);
        int[][] due = new int[4][24];
        for (int d = 0; d < 24; d++) {
            due[0][d] = d;
            due[1][d] = d == 0 ? 0 : d == 23 ? 2 : 1;
            due[2][d] = d == 0 ? 1 : d == 23 ? 0 : 2;
            due[3][d] = d == 0 ? 0 : d == 23 ? 3 : 7;
        }
        Sentence.terms("\"door\" (its number)");
        factIs(x, "door", 24, due[0]);
        Sentence.terms("\"from\", \"to\" (numbers of its ROOMS)");
        factIs(x, "from", 3, due[1]);
        factIs(x, "to", 3, due[2]);
        Sentence.terms("\"sees\" (L of the ROOM it leads to)");
        factIs(x, "sees", 8, due[3]);
    }

    /** A law that is 1 where a word has a value, and no more than 0 elsewhere. */
    private static void factIs(LostMuseum x, String word, int values, int[] due) {
        for (int v = 0; v < values; v += values > 12 ? 11 : 1) {
            Check.law(x, "1-most[" + word + "-" + v + "," + v + "-" + word + "]");
            for (int d : new int[] {0, 1, 2, 11, 12, 22, 23}) {
                Sentence.due(x.open(d, 7, 7), due[d] == v);
            }
        }
    }

    private static void lawUsed() {
        Sentence.terms("\"used\" (how often a TOUR has gone through it)");
        LostMuseum x = Check.of(TWO + "door 0 1 0 23;door 1 0 0 23;door 0 1 0 23;tour 0;tour 1;");
        Check.law(x, "used");
        Sentence.due(x.told(4), 0);
        Sentence.due(Check.work(x, "go 0 0;go 1 1;"), 0);
        Check.law(x, "2-used");
        Sentence.due(Check.work(x, "go 0 0;go 0 1;go 0 0;go 0 0;go 0 1;go 0 0;"), 4);
        Sentence.due(x.told(9), 2);
        Sentence.due(!x.open(0, 0, 0) && !x.open(1, 9, 9) && x.open(2, 0, 0), true);
        Check.law(x, "used-1");
        Sentence.due(x.open(0, 0, 0) && x.open(1, 0, 0) && !x.open(2, 0, 0), true);
        x.undo();
        Sentence.due(x.told(4), 0);
    }

    private static void lawPairs() {
        Sentence.terms("\"least\" \"[\" E \",\" E \"]\"");
        LostMuseum x = Check.of(PAIR);
        lawValue(x, "least[3,5]", 3);
        lawValue(x, "least[5,3]", 3);
        lawValue(x, "least[4,4]", 4);
        lawValue(x, "5+least[0-3,0-2]", 2);
        Sentence.terms("\"most\" \"[\" E \",\" E \"]\"");
        lawValue(x, "most[3,5]", 5);
        lawValue(x, "most[5,3]", 5);
        lawValue(x, "most[4,4]", 4);
        lawValue(x, "5+most[0-3,0-2]", 3);
        lawFault("least", 1, 5);
        lawFault("least 1", 1, 6);
        lawFault("least[", 1, 6);
        lawFault("least[]", 1, 6);
        lawFault("least[1", 1, 7);
        lawFault("least[1]", 1, 7);
        lawFault("least[1,", 1, 8);
        lawFault("least[1,]", 1, 8);
        lawFault("least[1,2", 1, 9);
        lawFault("least[1,2)", 1, 9);
        lawFault("most[1,2,3]", 1, 8);
        lawFault("most(1,2)", 1, 4);
        Sentence.terms("or \"(\" E \")\"");
        lawFault("(", 1, 1);
        lawFault("()", 1, 1);
        lawFault("(1", 1, 2);
        lawFault("(1]", 1, 2);
        lawFault("(1,2)", 1, 2);
        Sentence.terms("E: T { + or - T }. T: U { * or / or % U }");
        lawValue(x, "9-3-2", 4);
        lawValue(x, "2+3*4", 14);
        lawValue(x, "2*3+4", 10);
        lawValue(x, "20-6/4", 19);
        lawValue(x, "100/10/5", 2);
        lawValue(x, "100/(10/5)", 50);
        lawValue(x, "7*5%4", 3);
        lawValue(x, "7*(5%4)", 7);
        lawFault("1+", 1, 2);
        lawFault("1*", 1, 2);
        lawFault("+1", 1, 0);
        lawFault("1**1", 1, 2);
        lawFault("1+*1", 1, 2);
        lawFault("1^1", 1, 1);
    }

    private static void lawWraps() {
        Sentence.terms("Values are whole numbers of 32 bits that wrap");
        LostMuseum x = Check.of(PAIR);
        String high = "32*32*32*32*32*32*2";
        lawIs(x, high + "/2", false);
        lawIs(x, high, false);
        lawIs(x, high + "-1", true);
        lawIs(x, high + "-1+1", false);
        lawIs(x, "0-" + high, false);
        lawIs(x, "0-" + high + "-1", true);
        lawIs(x, high + "*2", false);
        lawIs(x, high + "*2+1", true);
        lawIs(x, "32*32*32*32*32*32", true);
        lawIs(x, "999*999*999*2", true);
        lawIs(x, "999*999*999*3", false);
        lawIs(x, "999*999*999*5", true);
        lawIs(x, "(" + high + "-1)*2+3", true);
        lawIs(x, "(" + high + "-1)*2+2", false);
        lawIs(x, "least[" + high + ",0]", false);
        lawIs(x, "most[" + high + ",1]", true);
    }

    private static void lawDivides() {
        Sentence.terms("/ cuts, % leaves (with the sign of what is divided), by 0 both are 0");
        LostMuseum x = Check.of(PAIR);
        lawValue(x, "7/2", 3);
        lawValue(x, "9+(0-7)/2", 6);
        lawValue(x, "9+7/(0-2)", 6);
        lawValue(x, "(0-7)/(0-2)", 3);
        lawValue(x, "9+1/2", 9);
        lawValue(x, "9+(0-1)/2", 9);
        lawValue(x, "7%4", 3);
        lawValue(x, "9+(0-7)%4", 6);
        lawValue(x, "7%(0-4)", 3);
        lawValue(x, "9+(0-7)%(0-4)", 6);
        lawValue(x, "9+8%4", 9);
        lawValue(x, "9+7/0", 9);
        lawValue(x, "9+7%0", 9);
        lawValue(x, "9+0/0", 9);
        lawValue(x, "9+0%0", 9);
        lawValue(x, "9+(0-7)/(1-1)", 9);
        lawValue(x, "9+7/door", 9);
        lawValue(x, "9+7%hour", 9);
        String low = "(0-32*32*32*32*32*32*2)";
        lawIs(x, low + "/(0-1)", false);
        lawIs(x, low + "/(0-1)-1", true);
        lawIs(x, low + "%(0-1)", false);
        lawIs(x, low + "%(0-1)+1", true);
        lawIs(x, low + "/0+1", true);
        lawIs(x, low + "%0+1", true);
    }

    private static void workBytes() {
        Sentence.terms("WORK is a text of up to 150 bytes: { STEP \";\" }");
        LostMuseum x = Check.of(PAIR);
        Sentence.due(Check.work(x, ""), 0);
        Sentence.due(Check.work(x, blanks(150)), 0);
        Sentence.due(Check.work(x, "hour;".repeat(30)), 30);
        Sentence.due(x.told(3), 30);
        Sentence.due(Check.work(x, "hour;" + blanks(140) + "hour;"), 2);
        Sentence.due(Check.work(x, "again1[" + "hour;".repeat(28) + " ];"), 28);
        Check.load(x, "hour;".repeat(32));
        Sentence.illegal(() -> x.work(151));
        Sentence.due(x.told(3), 60);
        Sentence.due(x.work(150), 30);
        workFault(blanks(146) + "hour", 1, 150);
        workFault(blanks(149) + ";", 1, 149);
        workFault("hour", 1, 4);
        workFault("hour;;", 1, 5);
        workFault("hour;hour", 1, 9);
        workFault("hour 1;", 1, 5);
        workFault("]", 1, 0);
        workFault("hour;]", 1, 5);
        workFault("room 0;", 1, 0);
    }

    private static void workNumbers() {
        Sentence.terms("STEP: \"go\" T D (TOUR T through DOOR D), \"bar\" D, \"unbar\" D, \"hour\"");
        String full = TWO + "door 0 1 0 23;door 1 0 0 23;".repeat(12) + "tour 0;tour 0;tour 0;tour 0;tour 0;tour 1;";
        LostMuseum x = Check.of(full);
        Sentence.due(Check.work(x, "go 5 23;bar 23;unbar 23;"), 3);
        Sentence.due(Check.work(x, "go 0 0;bar 0;unbar 0;"), 3);
        Sentence.due(Check.work(x, "go 6 0;"), -8);
        Sentence.due(x.fault(), 3);
        Sentence.due(Check.work(x, "go 0 24;"), -8);
        Sentence.due(x.fault(), 5);
        Sentence.due(Check.work(x, "go 6 24;"), -8);
        Sentence.due(x.fault(), 3);
        Sentence.due(Check.work(x, "bar 24;"), -8);
        Sentence.due(x.fault(), 4);
        Sentence.due(Check.work(x, "unbar 24;"), -8);
        Sentence.due(x.fault(), 6);
        workFault("go 1 0;", 2, 3);
        workFault("go 0 2;", 2, 5);
        workFault("bar 2;", 2, 4);
        workFault("unbar 2;", 2, 6);
        workFault("go", 1, 2);
        workFault("go 0", 1, 4);
        workFault("go 0;", 1, 4);
        workFault("bar;", 1, 3);
        workFault("unbar", 1, 5);
        LostMuseum none = new LostMuseum();
        Sentence.due(Check.work(none, "bar 0;"), -8);
        Sentence.due(Check.work(none, "go 0 0;"), -8);
        Sentence.due(none.fault(), 3);
        Sentence.due(Check.work(none, "hour;"), 1);
    }

    private static void againNumbers() {
        Sentence.terms("\"again\" N \"[\" { STEP \";\" } \"]\" (N 0 to 30)");
        LostMuseum x = Check.of(PAIR);
        Sentence.due(Check.work(x, "again 0 [hour;];"), 0);
        Sentence.due(x.told(3), 0);
        Sentence.due(Check.work(x, "again 1 [hour;];"), 1);
        Sentence.due(Check.work(x, "again 2 [hour;];"), 2);
        Sentence.due(Check.work(x, "again 30 [hour;];"), 30);
        Sentence.due(Check.work(x, "again 30 [];again 0 [];hour;"), 1);
        Sentence.due(Check.work(x, "again 2 [again 0 [hour;];again 3 [hour;];];hour;"), 7);
        Sentence.due(Check.work(x, "again 3 [again 2 [hour;];again 1 [];];"), 6);
        workFault("again 31 [];", 2, 6);
        workFault("again [];", 1, 6);
        workFault("again 1 hour;", 1, 8);
        workFault("again 1", 1, 7);
        workFault("again 1 [", 1, 9);
        workFault("again 1 [hour];", 1, 13);
        workFault("again 1 [hour;", 1, 14);
        workFault("again 1 [hour;]", 1, 15);
        workFault("again 1 [];]", 1, 11);
        workFault("again 1 [;];", 1, 9);
    }

    private static void walkLines() {
        Sentence.terms("A WALK is a text of up to 60 bytes: { L \";\" }, 12 lines at most: what was seen (0 to 7)");
        LostMuseum x = Check.of(PAIR);
        Sentence.due(Check.walk(x, ""), 0);
        Sentence.due(Check.walk(x, blanks(60)), 0);
        Sentence.due(Check.walk(x, "0;7;"), 2);
        Sentence.due(Check.walk(x, "0;1;2;3;4;5;6;7;0;1;2;"), 11);
        Sentence.due(Check.walk(x, "   7;".repeat(12)), 12);
        Sentence.due(x.told(8), 12);
        Sentence.due(Check.walk(x, "0;".repeat(12) + blanks(36)), 12);
        Check.load(x, blanks(80));
        Sentence.illegal(() -> x.walk(61));
        Sentence.due(x.walk(60), 0);
        walkFault("0;".repeat(13), 3, 24);
        walkFault("0;".repeat(12) + blanks(35) + "0", 3, 59);
        walkFault("8;", 2, 0);
        walkFault("0;10;", 2, 2);
        walkFault("7", 1, 1);
        walkFault("7" + blanks(59), 1, 60);
        walkFault("7;;", 1, 2);
        walkFault(";", 1, 0);
        walkFault("room 0;", 1, 0);
        walkFault("0,", 1, 1);
    }

    private static void numbers() {
        Sentence.terms("Numbers: digits, as many as stand there");
        museumIs("room 7;room 007;room " + "0".repeat(500) + "7;", 3);
        museumFault("room 08;", 2, 5);
        museumFault("room 70;", 2, 5);
        museumFault("room 4294967296;", 2, 5);
        museumFault("room 4294967297;", 2, 5);
        museumFault("room 2147483648;", 2, 5);
        museumFault("room 18446744073709551616;", 2, 5);
        museumFault("room 1" + "0".repeat(500) + ";", 2, 5);
        museumFault("room " + "9".repeat(595), 2, 5);
        museumIs(TWO + "door 00 01 022 0023;", 2);
        museumFault(TWO + "door 0 10 23;", 2, 21);
        museumFault("room 1.0;", 1, 6);
        museumFault("room /;", 1, 5);
        museumFault("room :;", 1, 5);
        museumFault("room +1;", 1, 5);
        museumFault("room -1;", 1, 5);
        lawFault("0001000", 2, 0);
        lawFault("4294967297", 2, 0);
        workFault("again 4294967297 [];", 2, 6);
        walkFault("4294967297;", 2, 0);
    }

    private static void words() {
        Sentence.terms("WORDS: small letters, as many as stand there");
        museumIs("room0;room 0;", 2);
        museumFault("rooms 0;", 1, 0);
        museumFault("roomroom 0;", 1, 0);
        museumFault("roo 0;", 1, 0);
        museumFault("r 0;", 1, 0);
        museumFault("Room 0;", 1, 0);
        museumFault("rOom 0;", 1, 0);
        museumFault("ROOM 0;", 1, 0);
        museumFault("roomS 0;", 1, 4);
        museumFault("room` 0;", 1, 4);
        museumFault("room{ 0;", 1, 4);
        museumFault("`", 1, 0);
        museumFault("{", 1, 0);
        museumFault("az 0;", 1, 0);
        museumFault("plan 0;", 1, 0);
        museumFault("hour;", 1, 0);
        museumFault(TWO + "doors 0 1 0 0;", 1, 14);
        museumFault(TWO + "exi 0;", 1, 14);
        museumFault(TWO + "tours 0;", 1, 14);
        museumFault(TWO + "warde 0 0;", 1, 14);
        museumFault(TWO + "warders 0 0;", 1, 14);
        lawFault("plans", 1, 0);
        lawFault("pla", 1, 0);
        lawFault("planplan", 1, 0);
        lawFault("room", 1, 0);
        lawFault("leasts[1,1]", 1, 0);
        workFault("hours;", 1, 0);
        workFault("hou;", 1, 0);
        workFault("goo 0 0;", 1, 0);
        workFault("unba 0;", 1, 0);
        workFault("bars 0;", 1, 0);
        workFault("agai 1 [];", 1, 0);
        LostMuseum x = Check.of(PAIR);
        Sentence.due(Check.work(x, "go0 0;bar0;unbar0;again2[hour;];"), 5);
    }

    private static void blanks() {
        Sentence.terms("blanks (32) may stand ahead of all these, and at the end");
        museumIs("  room  0  ;  room  0  ;  door  0  1  0  23  ;  exit  1  ;  tour  0  ;  warder  0  3  ;  ", 2);
        LostMuseum x = Check.of(PAIR);
        Sentence.due(Check.law(x, "  least  [  1  ,  (  2  +  hour  )  *  3  ]  -  day  /  2  %  3  "), 1);
        Sentence.due(Check.work(x, "  go  0  0  ;  again  2  [  hour  ;  ]  ;  bar  0  ;  unbar  0  ;  "), 5);
        Sentence.due(Check.walk(x, "  0  ;  7  ;  "), 2);
        museumFault("ro om 0;", 1, 0);
        museumFault("room 0 0;", 1, 7);
        museumFault("room\t0;", 1, 4);
        museumFault("room 0;\n", 1, 7);
        museumFault("room 0;\r", 1, 7);
        museumFault("room 0;\u0000", 1, 7);
        museumFault("room\u00a00;", 1, 4);
        museumFault("room 0;!", 1, 7);
        museumFault("room 0;\u001f", 1, 7);
        lawFault("1 0", 1, 2);
        walkFault("0 0;", 1, 2);
    }

    private static void faultsFromTheLeft() {
        Sentence.terms("FAULTS, the first from the left, at its first byte");
        museumFault("room 8;rooms 0;", 2, 5);
        museumFault("rooms 8;", 1, 0);
        museumFault("room 10;room", 2, 5);
        museumFault("room   123456;", 2, 7);
        museumFault("   zoom 1;", 1, 3);
        museumFault("room 0;room 99;room x;", 2, 12);
        museumFault("room 0;room x;room 99;", 1, 12);
        museumFault("room 0;".repeat(10) + "room 8;", 3, 70);
        museumFault("room 0;".repeat(9) + "room 8;room 0;", 2, 68);
        lawFault("1000+plans", 2, 0);
        lawFault("plans+1000", 1, 0);
        workFault("bar 9;hours;", 2, 4);
        workFault("hours;bar 9;", 1, 0);
        workFault("go 9 99;", 2, 3);
        walkFault("8;x;", 2, 0);
        walkFault("x;8;", 1, 0);
    }

    private static void faultsCantStand() {
        Sentence.terms("1 what can't stand there (at the length, if the text ends too early)");
        String door = TWO + "door 0 1 0 0";
        museumFault(door, 1, door.length());
        for (int cut = 15; cut < 26; cut++) {
            // In the midst of the word it is a word that is none; behind it the text ends too early.
            boolean inWord = cut < 18;
            museumFault(door.substring(0, cut), 1, inWord ? 14 : cut);
        }
        museumFault("room 0  ", 1, 8);
        museumFault("room   ", 1, 7);
        museumFault("room 0:", 1, 6);
        museumFault("0;", 1, 0);
        museumFault(";", 1, 0);
        museumFault("room;", 1, 4);
        museumFault("room 0,", 1, 6);
        museumFault("exit;", 1, 4);
        museumFault("room 0;warder 0;", 1, 15);
        museumFault("room 0;warder;", 1, 13);
        museumFault("room 0;tour;", 1, 11);
        museumFault("\u00ff", 1, 0);
        lawFault("1+  ", 1, 4);
        workFault("go 0  ", 1, 6);
        workFault("again 2 [hour;  ", 1, 16);
        walkFault("0;1 ", 1, 4);
    }

    private static void faultsNoSuchNumber() {
        Sentence.terms("2 a number that is none such (B as A, T below F: at it)");
        museumFault(TWO + "door  1   1 0 0;", 2, 24);
        museumFault(TWO + "door 0 1 10  9;", 2, 27);
        museumFault(TWO + "door 1 1", 2, 21);
        museumFault(TWO + "door 1 1 5 4;", 2, 21);
        museumFault(TWO + "door 0 1 5 4", 2, 25);
        museumFault(TWO + "door 0 1 24 3", 2, 23);
        museumFault("room 9", 2, 5);
        lawFault("1000 1000", 2, 0);
        workFault("again 31", 2, 6);
        workFault("go 0 9", 2, 5);
        walkFault("9", 2, 0);
    }

    private static void faultsTooMany() {
        Sentence.terms("3 a CLAUSE, ROOM, DOOR or TOUR (at its word), a line (at its L) too many");
        museumFault("room 0;".repeat(10) + "  room", 3, 72);
        museumFault(TWO + "door 0 1 0 0;".repeat(24) + "  door", 3, 328);
        museumFault("room 0;" + "tour 0;".repeat(6) + "  tour", 3, 51);
        museumFault("room 0;" + "exit 0;".repeat(59) + "  exit", 3, 422);
        museumIs("room 0;" + "exit 0;".repeat(58) + "warder 0 4;", 1);
        walkFault("0;".repeat(12) + "   0", 3, 27);
        walkFault("0;".repeat(12) + "   0;", 3, 27);
    }

    private static void faultsOpenAtOneTime() {
        Sentence.terms("or a 7th of ( least most again that is open at one time");
        LostMuseum x = Check.of(PAIR);
        lawIs(x, "((((((1))))))", true);
        lawIs(x, "((((((1))))))*((((((1))))))", true);
        lawIs(x, "(((((1)+(1)+(1)+(1)+(1)+(1)+(1)))))", true);
        lawIs(x, "(1)+(1)+(1)+(1)+(1)+(1)+(1)+(1)", true);
        lawIs(x, "least[(1),(least[(1),(most[(1),(1)])])]", true);
        lawIs(x, "least[most[1,1],most[1,1]]+most[least[1,1],least[1,1]]", true);
        lawFault("(((((((1)))))))", 3, 6);
        lawFault("((((((1+(1)))))))", 3, 8);
        lawFault("((((((1)))))+((((((1))))))", 3, 18);
        lawFault("least[1,".repeat(6) + " least[1,1]" + "]".repeat(6), 3, 49);
        lawFault("most[".repeat(6) + "most[", 3, 30);
        lawFault("least[most[(least[most[( least[1,1]", 3, 25);
        lawFault("least[most[(least[most[( most[1,1]", 3, 25);
        lawFault("least[most[(least[most[( (1", 3, 25);
        Sentence.due(Check.work(x, "again 1[".repeat(6) + "hour;" + "];".repeat(6)), 1);
        Sentence.due(Check.work(x, "again 1[".repeat(5) + "again 1[];again 1[hour;];" + "];".repeat(5)), 1);
        Sentence.due(Check.work(x, "again 1[];".repeat(8) + "hour;"), 1);
        workFault("again 1[".repeat(7), 3, 48);
        workFault("again 1[".repeat(6) + "hour; again 1[", 3, 54);
    }

    private static void faultsOfOneTheLeast() {
        Sentence.terms("of one the least");
        String sixty = "room 0;" + "exit 0;".repeat(59);
        museumFault(sixty + "exits 0;", 1, 420);
        museumFault(sixty + "7", 1, 420);
        museumFault(sixty + ";", 1, 420);
        walkFault("0;".repeat(12) + "8;", 2, 24);
        walkFault("0;".repeat(12) + "99", 2, 24);
        walkFault("0;".repeat(12) + "x;", 1, 24);
        walkFault("0;".repeat(12) + ";", 1, 24);
        lawFault("((((((plans", 1, 6);
        lawFault("((((((1000", 2, 6);
        lawFault("((((((]", 1, 6);
        workFault("again 1[".repeat(6) + "agains 1[", 1, 48);
        workFault("again 1[".repeat(6) + "1", 1, 48);
    }
}
