/** Promises 1 to 14: each sentence that names a boundary, with a test of its own. What is refused: SandLorryRefusals. */
public final class SandLorryEffortEdges {
    public static void main(String[] args) {
        allAsAtFirst();
        emptyAtFirst();
        nothingShared();
        sandWas();
        yardOfByHourAndAir();
        setWas();
        setWasOut();
        setBackFromOut();
        nowOfAll();
        nowOut();
        nowDrunk();
        nowPushes();
        softLess();
        softNone();
        softRows();
        windOnce();
        windSixty();
        windSum();
        effortNothing();
        effortReplaced();
        effortOfNow();
        effortOfOut();
        goGain();
        goTakesAll();
        givesAll();
        givesSunk();
        lastsFifty();
        lastsNone();
        lastsTillOut();
        outFifty();
        outNow();
        outAsLongAsItCanBeDone();
        whenNowAsItIs();
        whenToItsBegin();
        whenTwentyThree();
        whenNothingDrunk();
        whenFirstOfSeveral();
        whenGreatestBack();
        Edge.end();
    }

    // ---- 1

    private static void allAsAtFirst() {
        Edge.of(1, "All as at first");
        SandLorry x = new SandLorry();
        int[] now = {20, 0, 20, 0, 2, 4, 900, 0, 14, 3, 30, 0, 0, 0};
        for (int what = 0; what < now.length; what++) {
            Edge.due("now(" + what + ")", x.now(what), now[what]);
        }
        int[] counts = {0, 0, 0, 0, 1, 2000};
        for (int what = 0; what < counts.length; what++) {
            Edge.due("count(" + what + ")", x.count(what), counts[what]);
        }
        for (int which = -1; which <= 6; which++) {
            Edge.due("status(" + which + ")", x.status(which), 0);
        }
    }

    private static void emptyAtFirst() {
        Edge.of(1, "THE PLAN is empty; THE TAPE is empty, no image is kept.");
        Edge.due("clear()", new SandLorry().clear(), 0);
        Edge.due("planOf(0)", new SandLorry().planOf(0), Edge.BEYOND);
        Edge.due("wipe()", new SandLorry().wipe(), 0);
        Edge.due("text()", new SandLorry().text(), -1);
        Edge.due("tear()", new SandLorry().tear(), 0);
        Edge.due("undo()", new SandLorry().undo(), Edge.NONE);
    }

    private static void nothingShared() {
        Edge.of(1, "A new object, beside one that was used");
        Edge.busyOut();
        Edge.must("as another new one", Edge.look(new SandLorry()).equals(Edge.look(new SandLorry())));
        Edge.due("FIRM", new SandLorry().count(5), 2000);
    }

    // ---- 2 to 7

    private static void sandWas() {
        Edge.of(2, "FIRM of a YARD becomes v: what it was.");
        SandLorry x = new SandLorry();
        for (int yard = 0; yard < 40; yard += 39) {
            Edge.due("at first", x.sand(yard, 99), 50);
            Edge.due("the most", x.sand(yard, 0), 99);
            Edge.due("the least", x.sand(yard, 7), 0);
            Edge.due("FIRM", x.yardOf(yard, 0), 7);
        }
        Edge.due("its neighbours", x.yardOf(1, 0) + x.yardOf(38, 0), 100);
    }

    private static void yardOfByHourAndAir() {
        Edge.of(3, "1 GRIP (by HOUR and AIR now)");
        SandLorry x = Edge.at(839);
        x.sand(0, 99);
        Edge.due("without AIR, a minute ahead of 4", x.yardOf(0, 1), 99);
        x.set(3, 9);
        Edge.due("with AIR 9", x.yardOf(0, 1), 126);
        x.go(7);
        Edge.due("at 4", x.yardOf(0, 1), 146);
        Edge.due("FIRM alone", x.yardOf(0, 0), 99);
        x.set(1, 99);
        Edge.due("SUNK counts in WEIGHT alone", x.yardOf(0, 1), 146);
    }

    private static void setWas() {
        Edge.of(4, "becomes v: what it was");
        int[] first = {20, 0, 20, 0, 2, 4, 900};
        int[] least = {0, 0, 0, 0, 0, 1, 0};
        int[] most = {39, 99, 99, 9, 8, 8, 9999};
        for (int what = 0; what <= 6; what++) {
            SandLorry x = new SandLorry();
            Edge.due("to the most of " + what, x.set(what, most[what]), first[what]);
            Edge.due("to the least of " + what, x.set(what, least[what]), most[what]);
            Edge.due("to the same of " + what, x.set(what, least[what]), least[what]);
            for (int other = 0; other <= 6; other++) {
                Edge.due("now(" + other + ") by " + what, x.now(other), other == what ? least[what] : first[other]);
            }
        }
    }

    private static void setWasOut() {
        Edge.of(4, "(YARD: -1, 40, too)");
        Edge.due("OUT on", Edge.outOn().set(0, 39), 40);
        Edge.due("OUT back", Edge.outBack().set(0, 0), -1);
    }

    private static void setBackFromOut() {
        Edge.of(4, "What 0 YARD (0 to 39)");
        SandLorry x = Edge.outOn();
        Edge.due("40 can't be told", x.set(0, 40), Edge.BEYOND);
        Edge.due("nor -1", x.set(0, -1), Edge.BEYOND);
        Edge.due("still OUT", x.now(11), 1);
        x.set(0, 0);
        Edge.due("no longer OUT", x.now(11), 0);
        Edge.due("it goes", x.go(0), 3);
    }

    private static void nowOfAll() {
        Edge.of(5, "7 MINUTE, 8 HOUR, 9 HEAT, 10 WEIGHT");
        SandLorry x = Edge.at(1439);
        Edge.due("MINUTE", x.now(7), 1439);
        Edge.due("HOUR", x.now(8), 13);
        Edge.due("HEAT", x.now(9), 3);
        x.set(1, 99);
        x.set(2, 99);
        Edge.due("WEIGHT", x.now(10), 168);
        x.set(1, 0);
        x.set(2, 1);
        Edge.due("WEIGHT", x.now(10), 20);
    }

    private static void nowOut() {
        Edge.of(5, "11 1 if OUT, else 0");
        Edge.due("on 39", Edge.on(39).now(11), 0);
        Edge.due("on 0", Edge.on(0).now(11), 0);
        Edge.due("40", Edge.outOn().now(11), 1);
        Edge.due("-1", Edge.outBack().now(11), 1);
    }

    private static void nowDrunk() {
        Edge.of(5, "12 what was drunk so far");
        SandLorry x = Edge.kinds();
        x.go(1);
        x.go(0);
        Edge.due("24", x.now(12), 24);
        x.set(6, 9999);
        Edge.due("WATER that is set isn't drunk", x.now(12), 24);
        x.gives(5, 0);
        x.plans(0);
        Edge.due("nor what is tried AHEAD", x.now(12), 24);
        Edge.read(x, "dug;lightened");
        x.follow();
        Edge.due("but what THE PLAN drinks", x.now(12), 72);
    }

    private static void nowPushes() {
        Edge.of(5, "13 PUSHES so far");
        SandLorry x = Edge.kinds();
        x.go(0);
        Edge.due("three", x.now(13), 3);
        x.sand(23, 0);
        x.go(0);
        Edge.due("one that fails", x.now(13), 4);
        x.go(7);
        Edge.due("none in waiting", x.now(13), 4);
        x.gives(0, 0);
        x.odds(20);
        Edge.due("none AHEAD", x.now(13), 4);
        x.set(0, 39);
        x.set(1, 0);
        x.go(0);
        Edge.due("none OUT", x.now(13), 5);
    }

    private static void softLess() {
        Edge.of(6, "YARDS that are FIRM less than v (0 to 100)");
        SandLorry x = Edge.firm(99);
        Edge.due("less than 100", x.soft(100, 0), 40);
        Edge.due("the first", x.soft(100, 1), 0);
        Edge.due("less than 99", x.soft(99, 0), 0);
        x.sand(7, 0);
        Edge.due("less than 1", x.soft(1, 0), 1);
        Edge.due("the first", x.soft(1, 1), 7);
        Edge.due("less than 0", x.soft(0, 0), 0);
    }

    private static void softNone() {
        Edge.of(6, "1 the first of them (-1 if none");
        SandLorry x = Edge.firm(0);
        Edge.due("how many", x.soft(0, 0), 0);
        Edge.due("the first", x.soft(0, 1), -1);
    }

    private static void softRows() {
        Edge.of(6, "of several the first row)");
        int[][] rows = {{0, 0, 39, 39}, {0, 1, 38, 39}, {5, 7, 9, 11}, {0, 0, 38, 39}, {0, 2, 38, 39}, {3, 3, 5, 6}};
        int[] many = {1, 2, 3, 2, 3, 2};
        int[] first = {0, 0, 5, 38, 0, 5};
        for (int i = 0; i < rows.length; i++) {
            SandLorry x = new SandLorry();
            for (int yard = 0; yard < 40; yard++) {
                boolean one = yard >= rows[i][0] && yard <= rows[i][1];
                boolean other = yard >= rows[i][2] && yard <= rows[i][3];
                x.sand(yard, one || other ? 10 : 11);
            }
            Edge.due("how many of " + i, x.soft(11, 0), many[i]);
            Edge.due("the first of " + i, x.soft(11, 1), first[i]);
        }
    }

    private static int next(int z) {
        return (int) ((z & 0xffffffffL) * 1103515245L + 12345L);
    }

    private static void windOnce() {
        Edge.of(7, "n times (1 to 60) a YARD (the rest of a draw by 40) becomes FIRM so much (that of one more by 100)");
        for (int z : new int[] {1, 77, -5, Integer.MIN_VALUE}) {
            SandLorry x = new SandLorry();
            x.seed(z);
            int first = next(z);
            int second = next(first);
            int yard = (first >>> 8) % 40;
            int firm = (second >>> 8) % 100;
            Edge.due("wind(1)", x.wind(1), 1950 + firm);
            Edge.due("FIRM of " + yard, x.yardOf(yard, 0), firm);
            Edge.due("two draws", x.count(4), second);
        }
    }

    private static void windSixty() {
        Edge.of(7, "n times (1 to 60)");
        SandLorry x = new SandLorry();
        SandLorry y = new SandLorry();
        int sum = 0;
        for (int i = 0; i < 60; i++) {
            sum = y.wind(1);
        }
        Edge.due("as sixty times 1", x.wind(60), sum);
        Edge.due("z", x.count(4), y.count(4));
        for (int yard = 0; yard < 40; yard++) {
            Edge.due("FIRM of " + yard, x.yardOf(yard, 0), y.yardOf(yard, 0));
        }
    }

    private static void windSum() {
        Edge.of(7, "the sum of FIRM of all YARDS then");
        SandLorry x = new SandLorry();
        int told = x.wind(60);
        int sum = 0;
        for (int yard = 0; yard < 40; yard++) {
            sum += x.yardOf(yard, 0);
        }
        Edge.due("wind(60)", told, sum);
        Edge.due("count(5)", x.count(5), sum);
    }

    // ---- 8 to 11

    private static void effortNothing() {
        Edge.of(8, "(-1: nothing): 1.");
        SandLorry x = Edge.kinds();
        Edge.due("effort(7, -1)", x.effort(7, -1), 1);
        Edge.due("nothing", x.effortOf(7, 0), Edge.NONE);
        Edge.due("nothing anew", x.effort(7, -1), 1);
        Edge.due("those that hold one", x.count(1), 7);
    }

    private static void effortReplaced() {
        Edge.of(8, "An EFFORT is of a KIND");
        SandLorry x = new SandLorry();
        for (int kind = 0; kind < 8; kind++) {
            Edge.due("effort(9, " + kind + ")", x.effort(9, kind), 1);
            Edge.due("KIND", x.effortOf(9, 0), kind);
        }
        Edge.due("one slot", x.count(1), 1);
    }

    private static void effortOfNow() {
        Edge.of(9, "1 MINUTES that it would take now, .. 3 what it would DRINK now");
        SandLorry x = Edge.at(839);
        x.set(6, 0);
        Edge.due("MINUTES of WAITED at 3:59", x.effortOf(7, 1), 1);
        Edge.due("DRINK of WAITED at 3:59", x.effortOf(7, 3), 0);
        Edge.due("DRINK of DRAWN, WATER or not", x.effortOf(5, 3), 35);
        SandLorry y = Edge.at(840);
        Edge.due("MINUTES of WAITED at 4", y.effortOf(7, 1), 1440);
        Edge.due("DRINK of WAITED at 4", y.effortOf(7, 3), 96);
    }

    private static void effortOfOut() {
        Edge.of(9, "Of an EFFORT, where THE LORRY is OUT");
        SandLorry x = Edge.outBack();
        Edge.due("KIND", x.effortOf(5, 0), 5);
        Edge.due("MINUTES", x.effortOf(5, 1), 105);
        Edge.due("WORK", x.effortOf(5, 2), 4);
        Edge.due("DRINK", x.effortOf(5, 3), 105);
    }

    private static void goGain() {
        Edge.of(10, "An EFFORT is done: GAIN.");
        SandLorry x = Edge.kinds();
        x.set(4, 8);
        Edge.due("nine at most", x.go(2), 9);
        Edge.due("three back", x.go(6), -3);
        Edge.due("none", x.go(7), 0);
        Edge.due("OUT by one", Edge.on(39).go(2), 1);
        Edge.due("OUT back by one", Edge.on(0).go(6), -1);
    }

    private static void goTakesAll() {
        Edge.of(10, "STATE: it can't be done.");
        SandLorry x = Edge.kinds();
        x.set(6, 24);
        Edge.due("just enough", x.go(1), 3);
        Edge.due("no more", x.go(1), Edge.STATE);
        Edge.due("but what drinks nothing", x.go(0), 3);
        Edge.due("MINUTE", x.now(7), 31);
    }

    private static void givesAll() {
        Edge.of(11, "what 0 GAIN, 1 MINUTES, 2 what is drunk, 3 SUNK behind it");
        int[][] due = {{3, 1, 0, 0}, {3, 30, 24, 0}, {3, 45, 36, 0}, {3, 40, 24, 0}, {3, 10, 2, 0}, {3, 105, 105, 0},
            {-3, 1, 0, 0}, {0, 840, 168, 17}};
        SandLorry x = Edge.kinds();
        x.set(1, 17);
        for (int kind = 0; kind < 8; kind++) {
            for (int what = 0; what <= 3; what++) {
                Edge.due("gives(" + kind + ", " + what + ")", x.gives(kind, what), due[kind][what]);
            }
        }
        x.go(1);
        Edge.due("MINUTES of the next alone", x.gives(1, 1), 30);
        Edge.due("what the next drinks alone", x.gives(1, 2), 24);
    }

    private static void givesSunk() {
        Edge.of(11, "3 SUNK behind it");
        SandLorry x = Edge.firm(0);
        x.set(4, 0);
        x.set(1, 99);
        int[] due = {99, 63, 63, 99, 99, 63, 99, 99};
        for (int kind = 0; kind < 8; kind++) {
            Edge.due("KIND " + kind, x.gives(kind, 3), due[kind]);
        }
    }

    // ---- 12, 13

    /** One who digs and never comes on: 192 litres for 50 times, of which the last six. */
    private static SandLorry digger(int water) {
        SandLorry x = Edge.firm(0);
        x.set(2, 99);
        x.set(5, 1);
        x.set(6, water);
        return x;
    }

    private static void lastsFifty() {
        Edge.of(12, "(50 times at most): how often it can be done");
        Edge.due("one less than for 49", digger(185).lasts(1), 48);
        Edge.due("for 49", digger(186).lasts(1), 49);
        Edge.due("one less than for 50", digger(191).lasts(1), 49);
        Edge.due("for 50", digger(192).lasts(1), 50);
        Edge.due("for 51", digger(198).lasts(1), 50);
        Edge.due("for more", digger(9999).lasts(1), 50);
        Edge.due("without drinking", digger(0).lasts(0), 50);
    }

    private static void lastsNone() {
        Edge.of(12, "how often it can be done: never");
        Edge.due("WATER for none", digger(5).lasts(1), 0);
        Edge.due("WATER for one", digger(6).lasts(1), 1);
        Edge.due("OUT on", Edge.outOn().lasts(0), 0);
        Edge.due("OUT back", Edge.outBack().lasts(7), 0);
    }

    private static void lastsTillOut() {
        Edge.of(12, "how often it can be done, OUT at the end");
        Edge.due("from 39", Edge.on(39).lasts(0), 1);
        Edge.due("from 37", Edge.on(37).lasts(0), 1);
        Edge.due("from 36", Edge.on(36).lasts(0), 2);
        Edge.due("back from 2", Edge.on(2).lasts(6), 1);
        Edge.due("back from 3", Edge.on(3).lasts(6), 2);
        Edge.due("OUT behind the 49th", Edge.aheadOfCrust(49, 39).lasts(0), 49);
        Edge.due("OUT behind the 50th", Edge.aheadOfCrust(50, 39).lasts(0), 50);
        Edge.due("OUT behind the 51st", Edge.aheadOfCrust(51, 39).lasts(0), 50);
    }

    private static void outFifty() {
        Edge.of(13, "again and again (50 times at most, ..), till THE LORRY is OUT: behind how many");
        Edge.due("from 37", Edge.on(37).out(0), 1);
        Edge.due("from 36", Edge.on(36).out(0), 2);
        int[] ahead = {1, 49, 50};
        for (int minutes : ahead) {
            Edge.due("on behind " + minutes, Edge.aheadOfCrust(minutes, 39).out(0), minutes);
            Edge.due("back behind " + minutes, Edge.aheadOfCrust(minutes, 0).out(6), minutes);
        }
        Edge.due("on behind 51", Edge.aheadOfCrust(51, 39).out(0), Edge.NONE);
        Edge.due("back behind 51", Edge.aheadOfCrust(51, 0).out(6), Edge.NONE);
    }

    private static void outNow() {
        Edge.of(13, "(0, if it is OUT now)");
        for (int kind = 0; kind < 8; kind++) {
            Edge.due("OUT on, KIND " + kind, Edge.outOn().out(kind), 0);
            Edge.due("OUT back, KIND " + kind, Edge.outBack().out(kind), 0);
        }
    }

    private static void outAsLongAsItCanBeDone() {
        Edge.of(13, "as long as it can be done");
        SandLorry x = Edge.on(34);
        x.set(6, 48);
        Edge.due("WATER for both", x.out(1), 2);
        x.set(6, 47);
        Edge.due("WATER for one", x.out(1), Edge.NONE);
        x.set(6, 0);
        Edge.due("without drinking", x.out(0), 2);
    }

    // ---- 14

    private static void whenNowAsItIs() {
        Edge.of(14, "that of now as it is");
        // At 3:59 the minute of the EFFORT ends in the crust; an hour's begin at 3 wouldn't do.
        SandLorry x = softAt(839);
        Edge.due("3:59", x.when(0), 3);
        x = softAt(838);
        Edge.due("3:58", x.when(0), 4);
        x = softAt(1078);
        Edge.due("7:58", x.when(0), 7);
        x = softAt(1079);
        Edge.due("7:59 ends at 8", x.when(0), 4);
        x = softAt(1080);
        Edge.due("8:00", x.when(0), 4);
    }

    /** On sand that bears THE LORRY in the crust alone. */
    private static SandLorry softAt(int minute) {
        SandLorry x = Edge.at(minute);
        for (int yard = 20; yard < 30; yard++) {
            x.sand(yard, 10);
        }
        x.set(4, 0);
        return x;
    }

    private static void whenToItsBegin() {
        Edge.of(14, "to its begin");
        // DUG takes 30 minutes: from 3:30 on it ends in the crust, from 3:00 it doesn't.
        Edge.due("at 2:30", softAt(750).when(1), 4);
        Edge.due("at 3:29", softAt(809).when(1), 4);
        Edge.due("at 3:30", softAt(810).when(1), 3);
        // BOARDED takes 45, LIGHTENED 40.
        Edge.due("BOARDED at 2:59", softAt(779).when(2), 4);
        Edge.due("BOARDED at 3:15", softAt(795).when(2), 3);
        Edge.due("BOARDED at 3:14", softAt(794).when(2), 4);
    }

    private static void whenTwentyThree() {
        Edge.of(14, "(0 to 23 HOURS");
        // With 4 litres four people can wait an hour by night, no more: from 3 to 4.
        SandLorry x = Edge.at(840);
        x.set(6, 4);
        Edge.due("at 4 that is 23 HOURS on", x.when(7), 3);
        x.set(6, 3);
        Edge.due("a litre less", x.when(7), Edge.NONE);
        SandLorry y = Edge.at(780);
        y.set(6, 4);
        Edge.due("at 3 that is none on", y.when(7), 3);
        y.set(6, 3);
        Edge.due("a litre less", y.when(7), Edge.NONE);
        SandLorry z = Edge.at(781);
        z.set(6, 3);
        Edge.due("at 3:01 the minutes that are left", z.when(7), 3);
    }

    private static void whenNothingDrunk() {
        Edge.of(14, "nothing drunk");
        SandLorry x = Edge.kinds();
        x.set(6, 24);
        Edge.due("WATER for that of now", x.when(1), 14);
        x.set(6, 23);
        Edge.due("HEAT 2", x.when(1), 17);
        x.set(6, 16);
        Edge.due("just for HEAT 2", x.when(1), 17);
        x.set(6, 15);
        Edge.due("HEAT 1", x.when(1), 20);
        x.set(6, 8);
        Edge.due("just for HEAT 1", x.when(1), 20);
        x.set(6, 7);
        Edge.due("for none", x.when(1), Edge.NONE);
    }

    private static void whenFirstOfSeveral() {
        Edge.of(14, "of several that which comes first");
        for (int minute : new int[] {0, 59, 599, 600, 839, 1439}) {
            SandLorry x = Edge.at(minute);
            int hour = x.now(8);
            for (int kind = 0; kind < 8; kind++) {
                Edge.due("all alike at " + minute + ", KIND " + kind, x.when(kind), hour);
            }
        }
        SandLorry x = Edge.kinds();
        x.sand(22, 10);
        Edge.due("three in the crust, two else", x.when(0), 4);
        x.sand(22, 9);
        Edge.due("two in any", x.when(0), 14);
    }

    private static void whenGreatestBack() {
        Edge.of(14, "gives the greatest GAIN, where it goes back");
        SandLorry x = Edge.at(840);
        for (int yard = 0; yard < 40; yard++) {
            x.sand(yard, 10);
        }
        Edge.due("out of the crust it goes less far back", x.when(6), 8);
        SandLorry y = Edge.at(1438);
        Edge.due("always three back", y.when(6), 13);
    }
}
