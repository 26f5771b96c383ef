/** "==== 2." and the first lines of "==== 3.": each sentence that names a boundary case. */
public final class BoundaryStepsTest {
    /** Rooms 0 to 3 in a row, each with a door there and one back, and all six tours in 0 and 3. */
    private static final String ROW = "room 0;room 1;room 0;room 2;door 0 1 0 23;door 1 0 0 23;door 1 2 5 7;door 2 1 0 23;"
        + "door 2 3 0 23;door 3 2 0 23;exit 0;tour 0;tour 0;tour 0;tour 0;tour 0;tour 3;warder 1 8;";
    private static final String SIX_HOURS = "hour;hour;hour;hour;hour;hour;";

    public static void main(String[] args) {
        atFirst();
        inOrder();
        refusedChangesNothing();
        twoHundredSteps();
        againsAreBegun();
        refusedOnesAreBegun();
        leftOut();
        goFromItsRoom();
        goThroughAnOpenDoor();
        goUses();
        goMeets();
        bar();
        unbar();
        hour();
        nothingStaysChanged();
        barredDoorsAreNotThere();
        usedIsAsNow();
        byPlan();
        byHours();
        Check.end();
    }

    /** All that WORK changes, for six doors and six tours at most. */
    private static String state(LostMuseum x) {
        StringBuilder b = new StringBuilder();
        for (int what = 0; what <= 8; what++) {
            b.append(x.told(what)).append(' ');
        }
        for (int d = 0; d < x.told(1); d++) {
            b.append(x.door(d, 4)).append(x.door(d, 5)).append(x.door(d, 6)).append(' ');
        }
        for (int t = 0; t < x.told(2); t++) {
            b.append(x.tour(t));
        }
        return b.toString();
    }

    private static void wait(LostMuseum x, int hours) {
        int left = hours;
        while (left > 0) {
            int now = Math.min(left, 180);
            Check.work(x, "again " + now / 6 + " [" + SIX_HOURS + "];again " + now % 6 + " [hour;];");
            left -= now;
        }
        Check.same("waited", x.told(3), hours);
    }

    private static void atFirst() {
        Sentence.steps("It is HOUR 0 at first (of day 0); TOURS stand as told, no DOOR is barred or was used");
        LostMuseum x = Check.of(ROW);
        for (int round = 0; round < 2; round++) {
            Sentence.due(x.told(3), 0);
            Sentence.due(x.told(5), 0);
            Sentence.due(x.told(6), 0);
            Sentence.due(x.told(7), 0);
            for (int t = 0; t < 6; t++) {
                Sentence.due(x.tour(t), t < 5 ? 0 : 3);
            }
            for (int d = 0; d < 6; d++) {
                Sentence.due(x.door(d, 4), 0);
                Sentence.due(x.door(d, 6), 0);
            }
            Sentence.due(Check.law(x, "1-day-hour"), 1);
            Sentence.due(x.told(4), 6);
            Sentence.due(Check.work(x, "go 0 0;go 5 5;bar 2;hour;"), 4);
            Sentence.due(x.told(4), 0);
            Check.museum(x, ROW);
        }
    }

    private static void inOrder() {
        Sentence.steps("STEPS are done in order");
        LostMuseum x = Check.of(ROW);
        Sentence.due(Check.work(x, "go 0 0;again 5 [hour;];go 0 2;go 0 4;bar 0;unbar 0;bar 0;"), 11);
        Sentence.due(x.tour(0), 3);
        Sentence.due(x.door(0, 4), 1);
        LostMuseum y = Check.of(ROW);
        Sentence.due(Check.work(y, "go 0 2;again 5 [hour;];go 0 0;unbar 0;bar 0;"), 7);
        Sentence.due(y.tour(0), 1);
        Sentence.due(y.told(9), 2);
        LostMuseum z = Check.of(ROW);
        Sentence.due(Check.work(z, "again 2 [bar 0;again 2 [go 0 0;unbar 0;];];"), 5);
        Sentence.due(z.told(9), 5);
        Sentence.due(z.tour(0), 1);
    }

    private static void refusedChangesNothing() {
        Sentence.steps("one that can't be done is REFUSED, and changes nothing");
        for (String step : new String[] {"go 0 0;", "go 0 1;", "go 0 5;", "go 5 2;", "bar 0;", "unbar 1;", "hour;"}) {
            LostMuseum x = Check.of(ROW);
            wait(x, 960);
            Check.work(x, "bar 0;bar 4;unbar 4;go 5 5;");
            String before = state(x);
            Sentence.due(Check.work(x, step), 0);
            Sentence.due(x.told(9), 1);
            Sentence.due(state(x), before);
            Sentence.due(x.count(2), 8);
        }
    }

    private static void twoHundredSteps() {
        Sentence.steps("200 STEPS at most are begun by one WORK");
        LostMuseum x = Check.of(ROW);
        // One again and 180 hours, one again and 16 hours, one bar: 199 in all.
        Sentence.due(Check.work(x, "again 30 [" + SIX_HOURS + "];again 16 [hour;];bar 0;"), 197);
        Sentence.due(x.told(5), 1);
        x.undo();
        Sentence.due(Check.work(x, "again 30 [" + SIX_HOURS + "];again 17 [hour;];bar 0;"), 198);
        Sentence.due(x.told(5), 1);
        x.undo();
        Sentence.due(Check.work(x, "again 30 [" + SIX_HOURS + "];again 18 [hour;];bar 0;"), 198);
        Sentence.due(x.told(5), 0);
        Sentence.due(x.told(3), 198);
        x.undo();
        Sentence.due(Check.work(x, "again 30 [" + SIX_HOURS + "];again 19 [hour;];bar 0;"), 198);
        Sentence.due(x.told(3), 198);
        Sentence.due(x.told(9), 0);
        Sentence.due(Check.work(x, "again 30 [" + SIX_HOURS + "];again 30 [hour;];"), 198);
        Sentence.due(x.told(3), 396);
    }

    private static void againsAreBegun() {
        Sentence.steps("an again, too, each time it is come to");
        LostMuseum x = Check.of(ROW);
        // Thirty times seven: 1 + 28 * 7 = 197 ahead of the 29th, of which three are begun.
        Sentence.due(Check.work(x, "again 30 [again 0 [hour;];again 0 [];again 1 [];again 30 [];hour;hour;hour;];"), 84);
        Sentence.due(x.told(3), 84);
        x.undo();
        // The same with the hours first: three of the 29th are hours.
        Sentence.due(Check.work(x, "again 30 [hour;hour;hour;again 0 [hour;];again 0 [];again 1 [];again 30 [];];"), 87);
        x.undo();
        // The 200th is an again: none of what stands in it is begun.
        Sentence.due(Check.work(x, "again 30 [" + SIX_HOURS + "];again 17 [hour;];again 9 [hour;];"), 197);
        Sentence.due(x.told(9), 0);
        x.undo();
        Sentence.due(Check.work(x, "again 30 [" + SIX_HOURS + "];again 16 [hour;];again 9 [hour;];"), 197);
        x.undo();
        // 199 agains, nearly all of them thirty times nothing, and an hour behind them.
        Sentence.due(Check.work(x, "again 30[" + "again 30[];".repeat(6) + "];again 17[again 30[];];hour;"), 1);
        x.undo();
        // 1 + 6 * 31 = 187 ahead of the seventh, an again and 12 of its hours.
        Sentence.due(Check.work(x, "again 30 [again 30 [hour;];];"), 192);
        x.undo();
        // 1 + 3 * 61 = 184 ahead of the fourth: an again, seven times an again and an hour, and one again more.
        Sentence.due(Check.work(x, "again 30 [again 30 [again 1 [hour;];];];"), 97);
    }

    private static void refusedOnesAreBegun() {
        Sentence.steps("REFUSED ones, too");
        LostMuseum x = Check.of(ROW);
        Sentence.due(Check.work(x, "again 30 [unbar 0;unbar 1;unbar 2;unbar 3;unbar 4;unbar 5;];again 17 [hour;];bar 0;"), 18);
        Sentence.due(x.told(9), 180);
        Sentence.due(x.told(5), 1);
        x.undo();
        Sentence.due(Check.work(x, "again 30 [unbar 0;unbar 1;unbar 2;unbar 3;unbar 4;unbar 5;];again 18 [hour;];bar 0;"), 18);
        Sentence.due(x.told(5), 0);
        x.undo();
        Sentence.due(Check.work(x, "again 20 [again 20 [unbar 0;];];hour;"), 0);
        Sentence.due(x.told(9), 189);
    }

    private static void leftOut() {
        Sentence.steps("what would come behind is left out");
        LostMuseum x = Check.of(ROW);
        Sentence.due(Check.work(x, "again 30 [" + SIX_HOURS + "];again 18 [hour;];unbar 0;unbar 0;go 0 5;bar 0;hour;"), 198);
        Sentence.due(x.told(9), 0);
        Sentence.due(x.told(5), 0);
        Sentence.due(x.told(3), 198);
        Sentence.due(Check.work(x, "hour;"), 1);
    }

    private static void goFromItsRoom() {
        Sentence.steps("go: TOUR T stands in the ROOM that D leads from");
        LostMuseum x = Check.of(ROW);
        Sentence.due(Check.work(x, "go 0 1;go 0 4;go 0 5;go 5 0;go 5 4;"), 0);
        Sentence.due(x.told(9), 5);
        Sentence.due(Check.work(x, "go 0 0;go 5 5;"), 2);
        Sentence.due(Check.work(x, "go 0 0;go 5 5;"), 0);
        Sentence.due(Check.work(x, "go 0 1;go 5 4;"), 2);
        Sentence.due(x.tour(0), 0);
        Sentence.due(x.tour(5), 3);
    }

    private static void goThroughAnOpenDoor() {
        Sentence.steps("D is open in this HOUR: it stands in the one it leads to");
        LostMuseum x = Check.of(ROW);
        Check.work(x, "go 0 0;go 1 0;go 2 0;");
        Sentence.due(Check.work(x, "again 4 [hour;];go 0 2;"), 4);
        Sentence.due(x.tour(0), 1);
        Sentence.due(Check.work(x, "hour;go 0 2;"), 2);
        Sentence.due(x.tour(0), 2);
        Sentence.due(Check.work(x, "hour;hour;go 1 2;hour;go 2 2;"), 4);
        Sentence.due(x.tour(1), 2);
        Sentence.due(x.tour(2), 1);
        Check.law(x, "hour-7");
        Sentence.due(Check.work(x, "go 2 2;"), 1);
        Check.law(x, "0");
        Sentence.due(Check.work(x, "go 2 3;"), 0);
        Sentence.due(x.tour(2), 2);
        // It takes no HOUR.
        Sentence.due(x.told(3), 8);
    }

    private static void goUses() {
        Sentence.steps("(D was used once more)");
        LostMuseum x = Check.of(ROW);
        Check.work(x, "again 30 [go 0 0;go 0 1;go 0 1;];");
        Sentence.due(x.door(0, 6), 30);
        Sentence.due(x.door(1, 6), 30);
        Sentence.due(x.door(2, 6), 0);
        Sentence.due(x.told(6), 60);
        Check.work(x, "go 1 0;go 2 0;");
        Sentence.due(x.door(0, 6), 32);
        Sentence.due(x.told(6), 62);
        Sentence.due(x.worn(1), 32);
    }

    private static void goMeets() {
        Sentence.steps("each other TOUR that stands there then has MET it (once more)");
        LostMuseum x = Check.of(ROW);
        int met = 0;
        for (int t = 0; t < 5; t++) {
            Check.work(x, "go " + t + " 0;");
            met += t;
            Sentence.due(x.told(7), met);
        }
        Check.work(x, "go 0 1;");
        Sentence.due(x.told(7), 10);
        Check.work(x, "go 0 0;");
        Sentence.due(x.told(7), 14);
        Check.work(x, "go 5 5;go 5 3;");
        Sentence.due(x.told(7), 19);
        Check.work(x, "go 5 0;bar 0;hour;unbar 0;");
        Sentence.due(x.told(7), 19);
    }

    private static void bar() {
        Sentence.steps("bar: D is not open, whatever else, from now on (REFUSED, if it is barred)");
        LostMuseum x = Check.of(ROW);
        Check.law(x, "1");
        Sentence.due(Check.work(x, "bar 0;bar 5;"), 2);
        Sentence.due(Check.work(x, "bar 0;bar 5;bar 4;"), 1);
        Sentence.due(x.told(9), 2);
        Sentence.due(x.told(5), 3);
        Sentence.due(x.told(4), 3);
        Sentence.due(x.open(0, 0, 0) || x.open(0, 23, 99) || x.open(5, 5, 5), false);
        Check.law(x, "999");
        Sentence.due(x.open(0, 0, 0), false);
        Sentence.due(Check.work(x, "go 0 0;hour;go 0 0;"), 1);
        Sentence.due(x.tour(0), 0);
        Check.law(x, "0");
        Sentence.due(Check.work(x, "bar 1;"), 1);
        Sentence.due(x.door(1, 4), 1);
    }

    private static void unbar() {
        Sentence.steps("unbar likewise");
        LostMuseum x = Check.of(ROW);
        Sentence.due(Check.work(x, "unbar 0;unbar 5;"), 0);
        Sentence.due(x.told(9), 2);
        Sentence.due(Check.work(x, "bar 0;bar 5;unbar 0;unbar 0;"), 3);
        Sentence.due(x.told(9), 1);
        Sentence.due(x.door(0, 4), 0);
        Sentence.due(x.door(0, 5), 1);
        Sentence.due(x.door(5, 4), 1);
        Sentence.due(Check.work(x, "go 0 0;bar 0;unbar 0;"), 3);
        Sentence.due(x.door(0, 6), 1);
        LostMuseum many = Check.of("room 0;room 0;" + "door 0 1 0 0;".repeat(24));
        Sentence.due(Check.work(many, "bar 23;bar 0;bar 23;unbar 22;unbar 0;"), 3);
        Sentence.due(many.door(23, 4), 1);
        Sentence.due(many.door(0, 4), 0);
        Sentence.due(many.told(4), 23);
    }

    private static void hour() {
        Sentence.steps("hour: the HOUR is one more (REFUSED from 960 on)");
        LostMuseum x = Check.of(ROW);
        wait(x, 959);
        Sentence.due(x.told(9), 0);
        Check.law(x, "day-38");
        Sentence.due(x.told(4), 6);
        Check.law(x, "hour-22");
        Sentence.due(x.told(4), 6);
        Sentence.due(Check.work(x, "hour;"), 1);
        Sentence.due(x.told(3), 960);
        Sentence.due(x.told(4), 0);
        Check.law(x, "day-39");
        Sentence.due(x.told(4), 6);
        Check.law(x, "day-40");
        Sentence.due(x.told(4), 0);
        Sentence.due(Check.work(x, "hour;"), 0);
        Sentence.due(x.told(9), 1);
        Sentence.due(Check.work(x, "hour;hour;bar 0;"), 1);
        Sentence.due(x.told(9), 2);
        Sentence.due(x.told(3), 960);
    }

    private static void nothingStaysChanged() {
        Sentence.asked("Asked, nothing stays changed");
        LostMuseum x = Check.of(ROW);
        Check.law(x, "plan+used");
        Check.walk(x, "0;1;0;");
        Check.work(x, "go 0 0;bar 3;bar 3;hour;");
        x.image();
        Check.load(x, "some bytes");
        String before = state(x) + x.told(9) + x.count(0) + x.count(1) + x.count(2) + x.fault();
        for (int round = 0; round < 2; round++) {
            x.fits();
            x.knows();
            x.slips(0);
            x.slips(1);
            x.longest(0);
            x.lost(2);
            x.cuts();
            x.closed(5, 0);
            x.crowded(0);
            x.worn(0);
            x.open(2, 5, 50);
            for (int r = 0; r < 4; r++) {
                x.ends(r);
                x.soon(r, 3 - r);
                x.within(r, 96);
                x.out(r);
                x.string(r);
                x.wing(r);
                x.round(r);
                x.last(r);
                x.meet(r, 3 - r, 0);
                x.parted(r, 3 - r, 1);
                x.quiet(r, 3 - r, 0);
                x.way(r, 3 - r);
                x.next(r, 3 - r);
                x.loop(r);
                x.sleepwalk(r, r, 96, 0);
                x.span(r, 40, r, 96, 3 - r, 1);
            }
            Sentence.due(state(x) + x.told(9) + x.count(0) + x.count(1) + x.count(2) + x.fault(), before);
        }
    }

    private static void barredDoorsAreNotThere() {
        Sentence.asked("DOORS that are barred are not there in all that follows");
        LostMuseum x = Check.of("room 0;room 1;room 2;door 0 1 0 23;door 1 2 0 23;door 2 0 0 23;exit 0;");
        Check.walk(x, "0;1;2;");
        Sentence.due(x.fits(), 4);
        Check.work(x, "bar 1;");
        Sentence.due(x.fits(), 0);
        Sentence.due(x.ends(2), false);
        Sentence.due(x.slips(0), 3);
        Sentence.due(x.slips(1), 0);
        Sentence.due(x.soon(1, 2), -1);
        Sentence.due(x.within(0, 96), 3);
        Sentence.due(x.out(1), -1);
        Sentence.due(x.out(2), 1);
        Sentence.due(x.string(1), 1);
        Sentence.due(x.string(2), -1);
        Sentence.due(x.longest(0), 1);
        Sentence.due(x.longest(1), 1);
        Sentence.due(x.lost(0), 4);
        Sentence.due(x.lost(1), 2);
        Sentence.due(x.lost(2), 0);
        Sentence.due(x.cuts(), 1);
        Sentence.due(x.wing(0), 1);
        Sentence.due(x.round(0), -1);
        Sentence.due(x.round(2), 2);
        Sentence.due(x.last(0), -1);
        Sentence.due(x.last(2), 1);
        Sentence.due(x.meet(1, 2, 0), 2);
        Sentence.due(x.meet(1, 2, 1), 1);
        Sentence.due(x.parted(0, 2, 0), 0);
        Sentence.due(x.parted(2, 1, 1), 1);
        Sentence.due(x.quiet(0, 2, 0), 0);
        Sentence.due(x.way(0, 2), -1);
        Sentence.due(x.next(0, 2), -1);
        Sentence.due(x.loop(0), -1);
        Sentence.due(x.closed(0, 0), 2);
        Sentence.due(x.closed(0, 1), 4);
        Sentence.due(x.sleepwalk(1, 0, 96, 0), 1);
        Sentence.due(x.span(1, 40, 0, 96, 2, 1), 0);
        LostMuseum y = Check.of("room 0;room 0;door 0 1 0 23;door 1 0 0 23;");
        Sentence.due(y.knows(), -1);
        Check.work(y, "bar 1;");
        Sentence.due(y.knows(), 1);
    }

    private static void usedIsAsNow() {
        Sentence.asked("\"used\" is as now");
        LostMuseum x = Check.of("room 0;room 0;door 0 1 0 23;door 1 0 0 23;tour 0;");
        Check.law(x, "1-used");
        // A walker's way is no use by a TOUR, so the doors stay open for it.
        Sentence.due(x.sleepwalk(1, 0, 96, 2), 96);
        Sentence.due(x.span(1, 40, 0, 96, 0, 0), 40);
        Sentence.due(x.soon(0, 1), 1);
        Check.work(x, "go 0 0;");
        Sentence.due(x.soon(0, 1), -1);
        Sentence.due(x.soon(1, 0), 1);
        Sentence.due(x.within(0, 96), 1);
        Sentence.due(x.sleepwalk(1, 1, 96, 2), 1);
        Sentence.due(x.closed(0, 0), 1);
        Sentence.due(x.open(0, 23, 99), false);
        x.undo();
        Sentence.due(x.soon(0, 1), 1);
    }

    private static void byPlan() {
        Sentence.asked("By PLAN: DOORS as if always open");
        LostMuseum x = Check.of("room 0;room 1;room 2;door 0 1 5 5;door 1 2 4 4;door 2 0 3 3;exit 0;warder 1 8;");
        Check.walk(x, "0;1;2;");
        for (int round = 0; round < 2; round++) {
            Sentence.due(x.fits(), 4);
            Sentence.due(x.knows(), 0);
            Sentence.due(x.slips(0), 0);
            Sentence.due(x.string(2), 2);
            Sentence.due(x.longest(0), 2);
            Sentence.due(x.lost(0), 0);
            Sentence.due(x.lost(1), 0);
            Sentence.due(x.cuts(), 0);
            Sentence.due(x.wing(1), 7);
            Sentence.due(x.round(0), 2);
            Sentence.due(x.last(0), 2);
            Sentence.due(x.meet(0, 2, 0), 1);
            Sentence.due(x.parted(0, 2, 0), 1);
            Sentence.due(x.quiet(0, 2, 1), 2);
            Sentence.due(x.way(0, 2), 2);
            Sentence.due(x.next(0, 2), 0);
            Sentence.due(x.loop(0), 3);
            Check.law(x, "0");
        }
    }

    private static void byHours() {
        Sentence.asked("by HOURS: as they are open in the HOUR in which one goes through; that takes the HOUR; one may wait as one likes");
        LostMuseum x = Check.of("room 0;room 0;room 0;door 0 1 5 5;door 1 2 5 6;door 2 0 3 3;exit 2;");
        Sentence.due(x.soon(0, 1), 6);
        Sentence.due(x.soon(0, 2), 7);
        Sentence.due(x.soon(2, 1), 6);
        Sentence.due(x.within(0, 5), 1);
        Sentence.due(x.within(0, 6), 3);
        Sentence.due(x.within(0, 7), 7);
        Sentence.due(x.out(0), 7);
        Check.work(x, "again 5 [hour;];");
        Sentence.due(x.soon(0, 1), 1);
        Sentence.due(x.soon(0, 2), 2);
        Check.work(x, "hour;");
        Sentence.due(x.soon(0, 1), 24);
        Sentence.due(x.soon(1, 2), 1);
        Check.law(x, "least[plan,day]");
        Sentence.due(x.soon(1, 2), 24);
        LostMuseum late = Check.of("room 0;room 0;room 0;door 0 1 5 5;door 1 2 5 5;");
        Sentence.due(late.soon(0, 2), 30);
    }
}
