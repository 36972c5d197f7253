/** Promises 22 to 29: each sentence that names a boundary, with a test of its own. What is refused: SandLorryRefusals. */
public final class SandLorryNeedEdges {
    public static void main(String[] args) {
        bestOfOne();
        bestToItsEnd();
        bestOutAtItsEnd();
        bestByGain();
        bestByDrunk();
        bestByDigits();
        bestDigitsOfThree();
        bestWithoutWater();
        bestBelowNought();
        bestWithoutSlots();
        airLeast();
        airNow();
        airOfAnyYard();
        sacksMost();
        sacksSunk();
        sacksNow();
        waterLeast();
        waterWhateverThereIs();
        waterEmpty();
        waterOut();
        waterMuch();
        boardsFewest();
        boardsOrMore();
        boardsByWater();
        boardsAtTheEnd();
        wayFewer();
        wayTwenty();
        wayAsMany();
        wayOneOfThem();
        wayOut();
        wayNeither();
        oddsCount();
        oddsTwenty();
        oddsEdge();
        oddsNothingElse();
        seed();
        Edge.end();
    }

    private static void best(SandLorry x, int n, int gain, int drunk, int digits) {
        Edge.due("GAIN of " + n, x.best(n, 0), gain);
        Edge.due("drunk of " + n, x.best(n, 1), drunk);
        Edge.due("digits of " + n, x.best(n, 2), digits);
    }

    // ---- 22

    private static void bestOfOne() {
        Edge.of(22, "THE BEST ROW of n (1 to 3) KINDS, one behind the other");
        SandLorry x = new SandLorry();
        best(x, 1, 3, 0, 0);
        best(x, 2, 6, 0, 0);
        best(x, 3, 9, 0, 0);
        x.set(4, 3);
        best(x, 1, 4, 36, 2);
        best(x, 2, 8, 72, 22);
        best(x, 3, 12, 108, 222);
        x.set(4, 8);
        x.set(0, 13);
        best(x, 3, 27, 108, 222);
    }

    private static void bestToItsEnd() {
        Edge.of(22, "(a row that can't be done to its end doesn't count)");
        // From 37 an EFFORT is OUT, and nothing can be done behind it: the last one has to bring it OUT.
        SandLorry x = Edge.on(37);
        best(x, 1, 3, 0, 0);
        best(x, 2, 3, 168, 70);
        x.set(6, 167);
        // Without WATER to wait none brings it OUT by the second alone but from farther back.
        best(x, 2, 0, 0, 60);
        x.set(6, 35);
        x.set(4, 8);
        best(x, 2, 0, 0, 60);
        x.set(6, 36);
        best(x, 2, 3, 36, 62);
    }

    private static void bestOutAtItsEnd() {
        Edge.of(22, "a row that is OUT at its end counts");
        best(Edge.on(34), 2, 6, 0, 0);
        best(Edge.on(31), 3, 9, 0, 0);
        best(Edge.on(36), 2, 4, 0, 0);
        best(Edge.on(39), 1, 1, 0, 0);
    }

    private static void bestByGain() {
        Edge.of(22, "that of the greatest GAIN");
        SandLorry x = Edge.firm(10);
        best(x, 1, 2, 36, 2);
        x.set(4, 1);
        best(x, 1, 1, 36, 2);
        x.set(4, 0);
        best(x, 1, 0, 0, 0);
    }

    private static void bestByDrunk() {
        Edge.of(22, "of these the least that is drunk");
        SandLorry x = new SandLorry();
        x.sand(20, 25);
        // LIGHTENED drinks 24, LETDOWN 2; both go on, and EFFORT doesn't.
        best(x, 1, 3, 2, 4);
        x.sand(20, 20);
        // LETDOWN brings GRIP 29 to WEIGHT 30: only BOARDED and DRAWN go on.
        best(x, 1, 3, 36, 2);
    }

    private static void bestByDigits() {
        Edge.of(22, "of these the least as digits (the first the highest)");
        SandLorry x = new SandLorry();
        x.sand(23, 21);
        // One LETDOWN is needed at YARD 23, ahead of it or there: 04 is the least, not 40.
        best(x, 2, 6, 2, 4);
        x.sand(20, 21);
        best(x, 2, 6, 2, 40);
        // Too heavy for all of them: none brings it on, the least as digits is 0 and 000.
        SandLorry y = Edge.firm(0);
        y.set(2, 99);
        y.set(4, 0);
        best(y, 1, 0, 0, 0);
        best(y, 3, 0, 0, 0);
    }

    private static void bestDigitsOfThree() {
        Edge.of(22, "2 these digits");
        SandLorry x = new SandLorry();
        x.sand(26, 21);
        best(x, 3, 9, 2, 4);
        x.sand(23, 21);
        best(x, 3, 9, 2, 40);
        x.sand(20, 21);
        best(x, 3, 9, 2, 400);
    }

    private static void bestWithoutWater() {
        Edge.of(22, "THE BEST ROW, without WATER");
        SandLorry x = new SandLorry();
        x.set(6, 0);
        best(x, 3, 9, 0, 0);
        x.sand(20, 21);
        best(x, 1, 0, 0, 0);
        x.set(6, 1);
        best(x, 1, 0, 0, 0);
        x.set(6, 2);
        best(x, 1, 3, 2, 4);
    }

    private static void bestBelowNought() {
        Edge.of(22, "that of the greatest GAIN, also of those below 0");
        // On 39 without WATER two in a row need BACKED first; there the sand is soft.
        SandLorry x = Edge.on(39);
        x.set(6, 0);
        x.sand(36, 29);
        best(x, 2, -3, 0, 60);
        // SUNK where it stands, it doesn't go back and is at last OUT by none.
        x.sand(39, 29);
        best(x, 2, 0, 0, 0);
    }

    private static void bestWithoutSlots() {
        Edge.of(22, "KINDS, whatever the slots hold");
        SandLorry x = new SandLorry();
        x.set(4, 8);
        best(x, 1, 9, 36, 2);
        x.effort(0, 7);
        best(x, 1, 9, 36, 2);
    }

    // ---- 23, 24

    private static void airLeast() {
        Edge.of(23, "The least AIR (0 to 9)");
        SandLorry x = new SandLorry();
        // WEIGHT is 30.
        int[] firm = {99, 30, 29, 27, 26, 24, 23, 6, 5, 3, 2, 0};
        int[] air = {0, 0, 1, 1, 2, 2, 3, 8, 9, 9, Edge.NONE, Edge.NONE};
        for (int i = 0; i < firm.length; i++) {
            x.sand(39, firm[i]);
            Edge.due("FIRM " + firm[i], x.airFor(39), air[i]);
        }
    }

    private static void airNow() {
        Edge.of(23, "by which a PUSH would go on now");
        SandLorry x = new SandLorry();
        x.sand(0, 3);
        for (int air = 0; air <= 9; air++) {
            x.set(3, air);
            Edge.due("whatever AIR is: " + air, x.airFor(0), 9);
        }
        x.set(1, 1);
        Edge.due("SUNK 1", x.airFor(0), Edge.NONE);
        x.set(1, 0);
        x.set(2, 21);
        Edge.due("SACKS 21", x.airFor(0), 9);
        x.set(2, 22);
        Edge.due("SACKS 22", x.airFor(0), Edge.NONE);
        for (int minute : new int[] {839, 840, 1079, 1080}) {
            SandLorry y = Edge.at(minute);
            y.sand(0, 3);
            Edge.due("at " + minute, y.airFor(0), minute == 840 || minute == 1079 ? 3 : 9);
        }
    }

    private static void airOfAnyYard() {
        Edge.of(23, "from a YARD");
        SandLorry x = new SandLorry();
        x.sand(0, 27);
        x.sand(39, 24);
        Edge.due("the first", x.airFor(0), 1);
        Edge.due("the last", x.airFor(39), 2);
        Edge.due("OUT", Edge.outOn().airFor(39), 0);
    }

    private static void sacksMost() {
        Edge.of(24, "The most SACKS (0 to 99)");
        SandLorry x = new SandLorry();
        int[] firm = {0, 19, 20, 21, 30, 67, 68, 69, 70, 99};
        int[] sacks = {Edge.NONE, Edge.NONE, 1, 3, 21, 95, 97, 99, 99, 99};
        for (int i = 0; i < firm.length; i++) {
            x.sand(39, firm[i]);
            Edge.due("FIRM " + firm[i], x.sacksFor(39), sacks[i]);
        }
    }

    private static void sacksSunk() {
        Edge.of(24, "SUNK 0");
        SandLorry x = new SandLorry();
        x.set(1, 99);
        x.set(2, 99);
        Edge.due("however SUNK it is", x.sacksFor(20), 61);
        Edge.due("SUNK stays", x.now(1), 99);
        Edge.due("SACKS stay", x.now(2), 99);
    }

    private static void sacksNow() {
        Edge.of(24, "with which a PUSH would go on now");
        SandLorry x = Edge.at(839);
        x.sand(0, 19);
        Edge.due("without AIR", x.sacksFor(0), Edge.NONE);
        x.set(3, 1);
        Edge.due("AIR 1", x.sacksFor(0), 5);
        x.set(3, 9);
        Edge.due("AIR 9", x.sacksFor(0), 53);
        x.go(7);
        Edge.due("in the crust", x.sacksFor(0), 93);
        Edge.due("OUT", Edge.outBack().sacksFor(0), 61);
    }

    // ---- 25

    private static void waterLeast() {
        Edge.of(25, "The least WATER (0 to 9999) with which THE PLAN is done to its end.");
        String[] texts = {"effort", "dug", "boarded", "lightened", "letdown", "drawn", "backed", "waited", "dug;waited;dug"};
        for (String text : texts) {
            SandLorry x = Edge.kinds();
            int planned = Edge.read(x, text);
            int least = x.waterFor();
            x.set(6, least);
            Edge.due("done with the least for " + text, x.plans(0), planned);
            Edge.due("all of it is drunk", x.plans(2), least);
            if (least > 0) {
                x.set(6, least - 1);
                Edge.due("one less isn't enough for " + text, x.plans(0), planned - 1);
            }
        }
        SandLorry x = Edge.kinds();
        Edge.read(x, "dug;waited;dug");
        Edge.due("24, 162 and 8", x.waterFor(), 194);
    }

    private static void waterWhateverThereIs() {
        Edge.of(25, "with which: whatever WATER there is");
        SandLorry x = Edge.kinds();
        Edge.read(x, "dug 2");
        for (int water : new int[] {0, 47, 48, 9999}) {
            x.set(6, water);
            Edge.due("WATER " + water, x.waterFor(), 48);
        }
        x.go(1);
        Edge.due("what was drunk before isn't counted", x.waterFor(), 48);
    }

    private static void waterEmpty() {
        Edge.of(25, "0, if THE PLAN is empty.");
        Edge.keeps(Edge::kinds, 0, "waterFor");
        Edge.keeps(Edge::outOn, 0, "waterFor");
        Edge.keeps(Edge::outBack, 0, "waterFor");
    }

    private static void waterOut() {
        Edge.of(25, "NONE: with none (also, if THE LORRY is OUT ahead of that).");
        SandLorry x = Edge.on(37);
        Edge.read(x, "effort");
        Edge.due("OUT at the end", x.waterFor(), 0);
        Edge.read(x, "effort");
        Edge.due("OUT ahead of it", x.waterFor(), Edge.NONE);
        SandLorry y = Edge.outBack();
        Edge.read(y, "waited");
        Edge.due("OUT now", y.waterFor(), Edge.NONE);
    }

    private static void waterMuch() {
        Edge.of(25, "(0 to 9999): a full PLAN of eight people");
        SandLorry x = Edge.firm(0);
        x.set(2, 99);
        x.set(5, 8);
        x.set(6, 0);
        Edge.read(x, "drawn 9;drawn 9;drawn 2");
        int minute = 0;
        int due = 0;
        for (int i = 0; i < 20; i++) {
            int hour = (14 + minute / 60) % 24;
            int heat = hour >= 10 && hour <= 16 ? 3 : hour >= 20 || hour <= 5 ? 1 : 2;
            due += 8 * 5 * heat * 105 / 60;
            minute += 105;
        }
        Edge.due("twenty times DRAWN", x.waterFor(), due);
    }

    // ---- 26

    private static void boardsFewest() {
        Edge.of(26, "The fewest BOARDS (0 to 8)");
        SandLorry x = Edge.firm(10);
        for (int n = 1; n <= 8; n++) {
            Edge.due("soft, " + n, x.boardsFor(n), n);
        }
        Edge.due("soft, 9", x.boardsFor(9), Edge.NONE);
        SandLorry y = Edge.firm(50);
        int[] fewest = {0, 0, 0, 3, 4, 5, 6, 7, 8};
        for (int n = 1; n <= 9; n++) {
            Edge.due("firm, " + n, y.boardsFor(n), fewest[n - 1]);
        }
    }

    private static void boardsOrMore() {
        Edge.of(26, "gives a GAIN of n (1 to 9) or more");
        SandLorry x = new SandLorry();
        x.sand(20, 10);
        Edge.due("one BOARD gives three", x.boardsFor(1), 1);
        Edge.due("three by one", x.boardsFor(3), 1);
        Edge.due("four by three", x.boardsFor(4), 3);
        for (int boards = 0; boards <= 8; boards++) {
            x.set(4, boards);
            Edge.due("whatever BOARDS there are", x.boardsFor(1), 1);
        }
    }

    private static void boardsByWater() {
        Edge.of(26, "an EFFORT of KIND 2: WATER as it is");
        SandLorry x = new SandLorry();
        x.set(6, 36);
        Edge.due("just enough", x.boardsFor(1), 0);
        x.set(6, 35);
        Edge.due("one less", x.boardsFor(1), Edge.NONE);
    }

    private static void boardsAtTheEnd() {
        Edge.of(26, "a GAIN of n, up to OUT");
        SandLorry x = Edge.on(31);
        Edge.due("nine from 31", x.boardsFor(9), 8);
        x.set(0, 32);
        Edge.due("eight from 32", x.boardsFor(8), 7);
        Edge.due("nine from 32", x.boardsFor(9), Edge.NONE);
        x.set(0, 39);
        Edge.due("one from 39", x.boardsFor(1), 0);
        Edge.due("two from 39", x.boardsFor(2), Edge.NONE);
    }

    // ---- 27

    private static void wayFewer() {
        Edge.of(27, "that of the two by which THE LORRY is OUT behind fewer");
        int[] yards = {0, 17, 18, 19, 20, 21, 22, 39};
        int[] ways = {-1, -1, -1, 1, 1, 1, 1, 1};
        for (int i = 0; i < yards.length; i++) {
            Edge.due("on " + yards[i], Edge.on(yards[i]).way(), ways[i]);
        }
    }

    private static void wayTwenty() {
        Edge.of(27, "20 times AHEAD");
        Edge.due("on behind 19", Edge.aheadOfCrust(19, 39).way(), 1);
        Edge.due("on behind 20", Edge.aheadOfCrust(20, 39).way(), 1);
        Edge.due("on behind 21", Edge.aheadOfCrust(21, 39).way(), 0);
        Edge.due("back behind 19", Edge.aheadOfCrust(19, 0).way(), -1);
        Edge.due("back behind 20", Edge.aheadOfCrust(20, 0).way(), -1);
        Edge.due("back behind 21", Edge.aheadOfCrust(21, 0).way(), 0);
    }

    private static void wayAsMany() {
        Edge.of(27, "(on, if behind as many)");
        SandLorry x = Edge.on(20);
        Edge.due("seven on", x.out(0), 7);
        Edge.due("seven back", x.out(6), 7);
        Edge.due("way()", x.way(), 1);
        x.set(0, 19);
        Edge.due("way() on 19", x.way(), 1);
    }

    private static void wayOneOfThem() {
        Edge.of(27, "OUT by one of them alone");
        SandLorry x = Edge.on(2);
        x.sand(0, 0);
        Edge.due("on alone, though far", x.way(), 1);
        SandLorry y = Edge.on(37);
        y.sand(39, 0);
        Edge.due("back alone, though far", y.way(), -1);
    }

    private static void wayOut() {
        Edge.of(27, "1, too, if it is OUT now");
        Edge.due("OUT on", Edge.outOn().way(), 1);
        Edge.due("OUT back", Edge.outBack().way(), 1);
        Edge.due("busy", Edge.busyOut().way(), 1);
    }

    private static void wayNeither() {
        Edge.of(27, "neither, if it is OUT by none of them");
        Edge.due("too soft", Edge.firm(29).way(), 0);
        Edge.due("just firm enough", Edge.firm(30).way(), 1);
        SandLorry x = new SandLorry();
        x.set(6, 0);
        Edge.due("it needs no WATER", x.way(), 1);
    }

    // ---- 28, 29

    private static int next(int z) {
        return (int) ((z & 0xffffffffL) * 1103515245L + 12345L);
    }

    private static void oddsCount() {
        Edge.of(28, "n times (1 to 20) FIRM of the YARD where THE LORRY stands is tried as the rest of a draw by 100");
        for (int z = -30; z < 30; z++) {
            SandLorry x = new SandLorry();
            x.seed(z);
            int firm = (next(z) >>> 8) % 100;
            Edge.due("FIRM " + firm, x.odds(1), firm >= 30 ? 1 : 0);
            Edge.due("z", x.count(4), next(z));
        }
    }

    private static void oddsTwenty() {
        Edge.of(28, "n times (1 to 20): how often");
        SandLorry x = new SandLorry();
        SandLorry y = new SandLorry();
        x.set(1, 20);
        y.set(1, 20);
        int often = 0;
        for (int i = 0; i < 20; i++) {
            often += y.odds(1);
        }
        Edge.due("as twenty times 1", x.odds(20), often);
        Edge.due("z", x.count(4), y.count(4));
        x.set(1, 99);
        x.set(2, 99);
        Edge.due("never", x.odds(20), 0);
        SandLorry light = Edge.at(840);
        light.set(2, 0);
        light.set(3, 9);
        Edge.due("always: GRIP 47 at least", light.odds(20), 20);
    }

    private static void oddsEdge() {
        Edge.of(28, "a PUSH would go on from it");
        // SUNK so deep that WEIGHT is just as much as GRIP, then one more.
        for (int z = 0; z < 40; z++) {
            int firm = (next(z) >>> 8) % 100;
            if (firm >= 20) {
                SandLorry x = new SandLorry();
                x.set(2, 0);
                x.set(1, firm - 20);
                x.seed(z);
                Edge.due("GRIP is WEIGHT", x.odds(1), 1);
                x.seed(z);
                x.set(1, firm - 19);
                Edge.due("GRIP is one less", x.odds(1), 0);
                x.seed(z);
                x.set(3, 1);
                Edge.due("AIR 1 more", x.odds(1), 1);
            }
        }
    }

    private static void oddsNothingElse() {
        Edge.of(28, "(z goes on by the draws, nothing else changes)");
        SandLorry x = Edge.busy();
        SandLorry y = Edge.busy();
        int z = y.count(4);
        for (int i = 0; i < 20; i++) {
            z = next(z);
        }
        x.odds(20);
        x.status(0);
        y.seed(z);
        Edge.must("but z all is as it was", Edge.look(x).equals(Edge.look(y)));
    }

    private static void seed() {
        Edge.of(29, "z becomes v: what it was.");
        SandLorry x = new SandLorry();
        Edge.due("at first", x.seed(Integer.MAX_VALUE), 1);
        Edge.due("the most", x.seed(Integer.MIN_VALUE), Integer.MAX_VALUE);
        Edge.due("the least", x.seed(-1000001), Integer.MIN_VALUE);
        Edge.due("as a finding, but none", x.seed(0), -1000001);
        Edge.due("status(-1)", x.status(-1), 0);
        x.wind(1);
        Edge.due("what it is behind draws", x.seed(1), next(next(0)));
    }
}
