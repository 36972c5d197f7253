import java.util.function.Supplier;

/** The sentences of "Terms" on the sand, the lorry and the efforts that name a boundary, each with a test of its own. */
public final class SandLorryTermEdges {
    private static final int[] DRINKS_AT_FIRST = {0, 24, 36, 24, 2, 105, 0, 168};

    public static void main(String[] args) {
        findings();
        anyIntIsNoFinding();
        quotientsAreCut();
        atFirst();
        outOn();
        outBack();
        sunk();
        hour();
        heat();
        grip();
        weight();
        push();
        pushFails();
        pushOfThree();
        slots();
        minutes();
        minutesOfWaited();
        work();
        drinks();
        heatAsItBegins();
        waterIsLess();
        minuteGoesOnFirst();
        dug();
        boardedOnYards();
        boardedPushes();
        boardedWithoutBoards();
        drawn();
        drawnWithoutBoards();
        lightened();
        letdown();
        backed();
        waited();
        outDoesNothing();
        plan();
        ahead();
        gainBack();
        draws();
        spots();
        sheets();
        Edge.end();
    }

    private static void findings() {
        Edge.of(0, "LOW is -1000001; LOW BEYOND, LOW - 1 FULL, LOW - 2 KIND, LOW - 3 NONE, LOW - 4 STATE, LOW - 5 MISSING,"
            + " LOW - 6 SIZE");
        SandLorry x = Edge.outOn();
        for (int i = 0; i < 30; i++) {
            x.feed(0, 4);
        }
        x.hold(0, 0);
        Edge.due("BEYOND", x.now(14), -1000001);
        Edge.due("FULL", x.feed(0, 1), -1000002);
        Edge.due("KIND", x.as(0, 1), -1000003);
        Edge.due("NONE", x.undo(), -1000004);
        Edge.due("STATE", x.go(0), -1000005);
        Edge.due("MISSING", x.judge(0), -1000006);
        Edge.due("SIZE", x.sheet(0, 8, -1), -1000007);
    }

    private static void anyIntIsNoFinding() {
        Edge.of(0, "What seed() and count(4) tell, z, may be any int: that is no finding.");
        int[] all = {-1000000, -1000001, -1000007, -1000008, Integer.MIN_VALUE, Integer.MAX_VALUE, -1, 0};
        SandLorry x = new SandLorry();
        int was = 1;
        for (int z : all) {
            Edge.due("seed(" + z + ")", x.seed(z), was);
            Edge.due("count(4)", x.count(4), z);
            was = z;
        }
        Edge.due("status(-1)", x.status(-1), 0);
    }

    private static void quotientsAreCut() {
        Edge.of(0, "Quotients are cut.");
        SandLorry x = Edge.kinds();
        int[] sacks = {0, 1, 2, 3, 98, 99};
        int[] weights = {20, 20, 21, 21, 69, 69};
        for (int i = 0; i < sacks.length; i++) {
            x.set(2, sacks[i]);
            Edge.due("WEIGHT with SACKS " + sacks[i], x.now(10), weights[i]);
        }
        x.set(5, 8);
        Edge.due("24 by 60", x.effortOf(0, 3), 0);
        int[] litres = {0, 1, 1, 2, 2, 3, 3, 4};
        for (int people = 1; people <= 8; people++) {
            x.set(5, people);
            Edge.due("LETDOWN of " + people, x.effortOf(4, 3), litres[people - 1]);
        }
    }

    private static void atFirst() {
        Edge.of(0, "YARDS 0 to 39, each FIRM (0 to 99; 50 at first). .. 20 at first .. 0 at first");
        SandLorry x = new SandLorry();
        for (int yard = 0; yard < 40; yard++) {
            Edge.due("FIRM of " + yard, x.yardOf(yard, 0), 50);
        }
        int[] first = {20, 0, 20, 0, 2, 4, 900, 0, 14};
        for (int what = 0; what < first.length; what++) {
            Edge.due("now(" + what + ")", x.now(what), first[what]);
        }
    }

    private static void outOn() {
        Edge.of(0, "OUT (YARD 40: it went on from 39");
        int[] yards = {39, 38, 37, 36};
        int[] gains = {1, 2, 3, 3};
        for (int i = 0; i < yards.length; i++) {
            SandLorry x = Edge.on(yards[i]);
            Edge.due("GAIN from " + yards[i], x.go(0), gains[i]);
            Edge.due("YARD", x.now(0), Math.min(40, yards[i] + 3));
            Edge.due("OUT", x.now(11), i < 3 ? 1 : 0);
            Edge.due("PUSHES", x.now(13), gains[i]);
        }
        SandLorry x = Edge.on(31);
        x.set(4, 8);
        Edge.due("nine PUSHES from 31", x.gives(2, 0), 9);
        x.go(2);
        Edge.due("OUT behind the ninth", x.now(11), 1);
        x.set(0, 30);
        x.go(2);
        Edge.due("not OUT from 30", x.now(11), 0);
        Edge.due("but on 39", x.now(0), 39);
    }

    private static void outBack() {
        Edge.of(0, "YARD -1: it went back from 0)");
        int[] yards = {0, 1, 2, 3};
        int[] gains = {-1, -2, -3, -3};
        for (int i = 0; i < yards.length; i++) {
            SandLorry x = Edge.on(yards[i]);
            Edge.due("GAIN from " + yards[i], x.go(6), gains[i]);
            Edge.due("YARD", x.now(0), Math.max(-1, yards[i] - 3));
            Edge.due("OUT", x.now(11), i < 3 ? 1 : 0);
            Edge.due("PUSHES", x.now(13), -gains[i]);
        }
    }

    private static void sunk() {
        Edge.of(0, "else it is SUNK 4 more (99 at most)");
        int[] before = {0, 94, 95, 96, 99};
        int[] behind = {4, 98, 99, 99, 99};
        for (int i = 0; i < before.length; i++) {
            SandLorry x = Edge.kinds();
            x.sand(20, 0);
            x.set(1, before[i]);
            Edge.due("SUNK ahead, on", x.gives(0, 3), behind[i]);
            Edge.due("SUNK ahead, back", x.gives(6, 3), behind[i]);
            x.go(0);
            Edge.due("SUNK", x.now(1), behind[i]);
        }
    }

    private static void hour() {
        Edge.of(0, "HOUR: 14 and MINUTE by 60, the rest by 24");
        int[] minutes = {0, 59, 60, 599, 600, 659, 660, 1439, 1440, 2039, 2040};
        int[] hours = {14, 14, 15, 23, 0, 0, 1, 13, 14, 23, 0};
        for (int i = 0; i < minutes.length; i++) {
            SandLorry x = Edge.at(minutes[i]);
            Edge.due("MINUTE", x.now(7), minutes[i]);
            Edge.due("HOUR at " + minutes[i], x.now(8), hours[i]);
        }
    }

    private static void heat() {
        Edge.of(0, "HEAT: 3 in HOURS 10 to 16, 1 in HOURS 20 to 23 and 0 to 5, else 2.");
        int[] minutes = {0, 179, 180, 359, 360, 599, 600, 959, 960, 1199, 1200, 1439, 1440, 1619, 1620};
        int[] heats = {3, 3, 2, 2, 1, 1, 1, 1, 2, 2, 3, 3, 3, 3, 2};
        for (int i = 0; i < minutes.length; i++) {
            Edge.due("HEAT at " + minutes[i], Edge.at(minutes[i]).now(9), heats[i]);
        }
    }

    private static void grip() {
        Edge.of(0, "GRIP on a YARD: FIRM, and 3 times AIR, and 20 in HOURS 4 to 7.");
        int[] minutes = {839, 840, 1079, 1080};
        int[] crust = {0, 20, 20, 0};
        for (int i = 0; i < minutes.length; i++) {
            SandLorry x = Edge.at(minutes[i]);
            x.sand(0, 0);
            x.sand(39, 99);
            for (int air = 0; air <= 9; air++) {
                x.set(3, air);
                Edge.due("GRIP of 0 at " + minutes[i], x.yardOf(0, 1), 3 * air + crust[i]);
                Edge.due("GRIP of 39 at " + minutes[i], x.yardOf(39, 1), 99 + 3 * air + crust[i]);
            }
        }
    }

    private static void weight() {
        Edge.of(0, "WEIGHT: 20, and half of SACKS, and SUNK.");
        SandLorry x = new SandLorry();
        x.set(2, 0);
        Edge.due("the least", x.now(10), 20);
        x.set(1, 99);
        Edge.due("SUNK alone", x.now(10), 119);
        x.set(2, 99);
        Edge.due("the most", x.now(10), 168);
    }

    private static void push() {
        Edge.of(0, "if GRIP is WEIGHT or more, THE LORRY goes to the next YARD and is SUNK 0");
        for (int firm = 39; firm <= 41; firm++) {
            for (int slot = 0; slot <= 6; slot += 6) {
                SandLorry x = Edge.firm(50);
                x.sand(20, firm);
                x.set(1, 10);
                int step = slot == 0 ? 1 : -1;
                boolean goes = firm >= 40;
                Edge.due("FIRM " + firm + ", slot " + slot, x.go(slot), goes ? 3 * step : 0);
                Edge.due("SUNK", x.now(1), goes ? 0 : 14);
                Edge.due("PUSHES", x.now(13), goes ? 3 : 1);
            }
        }
    }

    private static void pushFails() {
        Edge.of(0, "EFFORT: 3 PUSHES on, up to the first that fails.");
        for (int good = 0; good <= 3; good++) {
            SandLorry x = Edge.kinds();
            x.sand(20 + good, 29);
            x.go(0);
            Edge.due("YARD, the one behind " + good + " too soft", x.now(0), 20 + good);
            Edge.due("SUNK", x.now(1), good < 3 ? 4 : 0);
            Edge.due("PUSHES", x.now(13), Math.min(3, good + 1));
        }
    }

    private static void pushOfThree() {
        Edge.of(0, "(The YARD for GRIP is that where it stands.");
        SandLorry x = Edge.kinds();
        x.sand(21, 0);
        Edge.due("from firm sand onto soft", x.go(0), 1);
        x.set(1, 0);
        x.sand(21, 50);
        x.sand(20, 0);
        Edge.due("back onto soft", x.go(6), -1);
    }

    private static void slots() {
        Edge.of(0, "EFFORTS 0 to 9 are slots that hold one of a KIND, or nothing (at first)");
        SandLorry x = new SandLorry();
        for (int slot = 0; slot < 10; slot++) {
            Edge.due("slot " + slot, x.effortOf(slot, 0), Edge.NONE);
        }
        for (int slot = 0; slot < 10; slot++) {
            x.effort(slot, slot % 8);
        }
        for (int slot = 0; slot < 10; slot++) {
            Edge.due("KIND in " + slot, x.effortOf(slot, 0), slot % 8);
        }
        Edge.due("all ten", x.count(1), 10);
    }

    private static void minutes() {
        Edge.of(0, "MINUTES that it takes: EFFORT: 1. DUG: 30. .. BACKED: as EFFORT.");
        int[] minutes = {1, 30, 45, 40, 10, 105, 1, 840};
        for (int kind = 0; kind < 8; kind++) {
            SandLorry x = Edge.kinds();
            Edge.due("MINUTES of " + kind, x.effortOf(kind, 1), minutes[kind]);
            x.go(kind);
            Edge.due("MINUTE behind " + kind, x.now(7), minutes[kind]);
        }
    }

    private static void minutesOfWaited() {
        Edge.of(0, "WAITED: up to the next time that HOUR becomes 4 (1 to 1440)");
        int[] minutes = {0, 1, 838, 839, 840, 841, 899, 900, 1080, 1440, 2279, 2280, 2281};
        int[] waits = {840, 839, 2, 1, 1440, 1439, 1381, 1380, 1200, 840, 1, 1440, 1439};
        for (int i = 0; i < minutes.length; i++) {
            SandLorry x = Edge.at(minutes[i]);
            Edge.due("WAITED at " + minutes[i], x.effortOf(7, 1), waits[i]);
            x.go(7);
            Edge.due("MINUTE", x.now(7), minutes[i] + waits[i]);
            Edge.due("HOUR", x.now(8), 4);
        }
    }

    private static void work() {
        Edge.of(0, "WORK: EFFORT: 0. DUG: 3. LIGHTENED: 2. DRAWN: as BOARDED, and 1. Others as the KIND above.");
        int[] work = {0, 3, 3, 2, 0, 4, 0, 0};
        SandLorry x = Edge.kinds();
        for (int kind = 0; kind < 8; kind++) {
            Edge.due("WORK of " + kind, x.effortOf(kind, 2), work[kind]);
        }
    }

    private static void drinks() {
        Edge.of(0, "It DRINKS: PEOPLE times (WORK and 1) times HEAT (as it begins) times MINUTES by 60 (cut).");
        int[] one = {0, 6, 9, 6, 0, 26, 0, 42};
        int[] eight = {0, 48, 72, 48, 4, 210, 0, 336};
        SandLorry x = Edge.kinds();
        for (int kind = 0; kind < 8; kind++) {
            x.set(5, 1);
            Edge.due("one, KIND " + kind, x.effortOf(kind, 3), one[kind]);
            x.set(5, 8);
            Edge.due("eight, KIND " + kind, x.effortOf(kind, 3), eight[kind]);
        }
        SandLorry waited = Edge.at(840);
        waited.set(5, 8);
        Edge.due("a whole day of eight", waited.effortOf(7, 3), 192);
    }

    private static void heatAsItBegins() {
        Edge.of(0, "HEAT (as it begins)");
        int[] minutes = {179, 180, 359, 360, 959, 960, 1199, 1200};
        int[] litres = {24, 16, 16, 8, 8, 16, 16, 24};
        for (int i = 0; i < minutes.length; i++) {
            SandLorry x = Edge.at(minutes[i]);
            int drunk = x.now(12);
            x.go(1);
            Edge.due("WATER behind DUG at " + minutes[i], x.now(6), 900 - litres[i]);
            Edge.due("drunk", x.now(12) - drunk, litres[i]);
        }
    }

    private static void waterIsLess() {
        Edge.of(0, "If WATER is less, it can't be done. Else WATER is that less");
        for (int kind = 0; kind < 8; kind++) {
            int litres = DRINKS_AT_FIRST[kind];
            SandLorry x = Edge.kinds();
            x.set(6, litres);
            Edge.must("just enough for " + kind, x.go(kind) > Edge.BEYOND);
            Edge.due("WATER behind it", x.now(6), 0);
            Edge.due("drunk", x.now(12), litres);
            int k = kind;
            if (litres > 0) {
                Edge.refused(() -> withWater(litres - 1), Edge.STATE, "go", k);
            }
        }
    }

    private static SandLorry withWater(int litres) {
        SandLorry x = Edge.kinds();
        x.set(6, litres);
        return x;
    }

    private static void minuteGoesOnFirst() {
        Edge.of(0, "MINUTE goes on, and then it is done");
        int[] minutes = {838, 839, 1078, 1079};
        int[] gains = {0, 3, 3, 0};
        for (int i = 0; i < minutes.length; i++) {
            SandLorry x = Edge.at(minutes[i]);
            for (int yard = 20; yard < 23; yard++) {
                x.sand(yard, 10);
            }
            Edge.due("EFFORT at " + minutes[i], x.go(0), gains[i]);
        }
    }

    private static void dug() {
        Edge.of(0, "DUG: SUNK is less by 10 for each of PEOPLE (0 at least); then as an EFFORT.");
        int[] people = {1, 1, 1, 4, 4, 4, 8, 8, 8};
        int[] before = {9, 10, 11, 39, 40, 41, 79, 80, 81};
        int[] behind = {4, 4, 5, 4, 4, 5, 4, 4, 5};
        for (int i = 0; i < people.length; i++) {
            SandLorry x = Edge.kinds();
            x.sand(20, 0);
            x.set(5, people[i]);
            x.set(1, before[i]);
            Edge.due("no GAIN", x.go(1), 0);
            Edge.due("SUNK " + before[i] + " with " + people[i], x.now(1), behind[i]);
        }
        SandLorry x = Edge.kinds();
        x.set(1, 60);
        Edge.due("dug to WEIGHT 50", x.go(1), 3);
        x.set(1, 61);
        Edge.due("dug to WEIGHT 51", x.go(1), 0);
        Edge.due("SUNK 21 and 4", x.now(1), 25);
    }

    private static void boardedOnYards() {
        Edge.of(0, "in PUSHES GRIP is 30 more on the YARD where it stands and each of the BOARDS less 1 ones behind it that"
            + " come next");
        for (int boards = 1; boards <= 8; boards++) {
            for (int slot = 2; slot <= 5; slot += 3) {
                // Just firm enough on BOARDS, by the rope 15 less; one less, and none goes.
                int needed = slot == 2 ? 0 : 15;
                SandLorry x = Edge.firm(0);
                x.set(2, 20 + 2 * needed);
                x.set(4, boards);
                Edge.due("KIND " + slot + " on " + boards, x.go(slot), boards);
                Edge.due("SUNK behind the last", x.now(1), 4);
                x.set(0, 20);
                x.set(1, 0);
                x.set(2, 22 + 2 * needed);
                Edge.due("one heavier", x.go(slot), 0);
                x.set(0, 39);
                x.set(1, 0);
                x.set(2, 20 + 2 * needed);
                Edge.due("on the last YARD", x.go(slot), 1);
            }
        }
    }

    private static void boardedPushes() {
        Edge.of(0, "there are BOARDS and 1 PUSHES at most, 3 at least");
        int[] most = {3, 3, 3, 4, 5, 6, 7, 8, 9};
        for (int boards = 0; boards <= 8; boards++) {
            for (int slot = 2; slot <= 5; slot += 3) {
                SandLorry x = Edge.kinds();
                x.set(4, boards);
                Edge.due("KIND " + slot + " with " + boards, x.go(slot), most[boards]);
                Edge.due("PUSHES", x.now(13), most[boards]);
                Edge.due("BOARDS", x.now(4), boards);
            }
        }
    }

    private static void boardedWithoutBoards() {
        Edge.of(0, "(without BOARDS as DUG)");
        for (int firm = 29; firm <= 30; firm++) {
            SandLorry x = Edge.firm(firm);
            x.set(4, 0);
            x.set(1, 40);
            Edge.due("FIRM " + firm, x.go(2), firm == 30 ? 3 : 0);
            Edge.due("SUNK", x.now(1), firm == 30 ? 0 : 4);
        }
        SandLorry x = Edge.firm(0);
        x.set(4, 0);
        x.set(0, 0);
        Edge.due("on YARD 0", x.go(2), 0);
    }

    private static void drawn() {
        Edge.of(0, "DRAWN: as BOARDED, and WEIGHT is 15 less");
        for (int sacks = 88; sacks <= 90; sacks++) {
            // WEIGHT 64 or 65 less 15 against FIRM 19 or 20 and 30 of BOARDS.
            for (int firm = 19; firm <= 20; firm++) {
                SandLorry x = Edge.firm(firm);
                x.set(2, sacks);
                boolean goes = firm + 30 >= 20 + sacks / 2 - 15;
                Edge.due("FIRM " + firm + ", SACKS " + sacks, x.go(5), goes ? 2 : 0);
                Edge.due("WEIGHT is as it was", x.now(10), 20 + sacks / 2 + 4);
            }
        }
    }

    private static void drawnWithoutBoards() {
        Edge.of(0, "(without BOARDS, too)");
        for (int firm = 14; firm <= 15; firm++) {
            SandLorry x = Edge.firm(firm);
            x.set(4, 0);
            Edge.due("FIRM " + firm, x.go(5), firm == 15 ? 3 : 0);
        }
        SandLorry x = Edge.firm(14);
        x.set(4, 0);
        x.set(0, 0);
        Edge.due("on YARD 0", x.go(5), 0);
    }

    private static void lightened() {
        Edge.of(0, "LIGHTENED: SACKS are 10 less (0 at least), then as an EFFORT.");
        int[] before = {0, 1, 9, 10, 11, 99};
        int[] behind = {0, 0, 0, 0, 1, 89};
        for (int i = 0; i < before.length; i++) {
            SandLorry x = Edge.kinds();
            x.set(2, before[i]);
            x.go(3);
            Edge.due("SACKS " + before[i], x.now(2), behind[i]);
        }
        for (int firm = 24; firm <= 25; firm++) {
            Edge.due("FIRM " + firm, Edge.firm(firm).go(3), firm == 25 ? 3 : 0);
        }
    }

    private static void letdown() {
        Edge.of(0, "LETDOWN: AIR is 3 more (9 at most), then as an EFFORT.");
        int[] behind = {3, 4, 5, 6, 7, 8, 9, 9, 9, 9};
        for (int air = 0; air <= 9; air++) {
            SandLorry x = Edge.kinds();
            x.set(3, air);
            x.go(4);
            Edge.due("AIR " + air, x.now(3), behind[air]);
        }
        for (int firm = 20; firm <= 21; firm++) {
            Edge.due("FIRM " + firm, Edge.firm(firm).go(4), firm == 21 ? 3 : 0);
        }
    }

    private static void backed() {
        Edge.of(0, "BACKED: 3 PUSHES back (to the YARD ahead), up to the first that fails.");
        for (int good = 0; good <= 3; good++) {
            SandLorry x = Edge.kinds();
            x.sand(20 - good, 29);
            x.go(6);
            Edge.due("YARD, the one ahead of " + good + " too soft", x.now(0), 20 - good);
            Edge.due("SUNK", x.now(1), good < 3 ? 4 : 0);
            Edge.due("PUSHES", x.now(13), Math.min(3, good + 1));
        }
        SandLorry x = Edge.firm(29);
        x.set(4, 8);
        Edge.due("no BOARDS", x.go(6), 0);
    }

    private static void waited() {
        Edge.of(0, "WAITED: nothing more.");
        SandLorry x = Edge.kinds();
        x.set(1, 33);
        Edge.due("GAIN", x.go(7), 0);
        Edge.due("SUNK", x.now(1), 33);
        Edge.due("PUSHES", x.now(13), 0);
        Edge.due("SACKS", x.now(2), 20);
        Edge.due("AIR", x.now(3), 0);
    }

    private static void outDoesNothing() {
        Edge.of(0, "A LORRY that is OUT doesn't PUSH; no EFFORT can be done then.");
        for (int kind = 0; kind < 8; kind++) {
            Edge.refused(Edge::outOn, Edge.STATE, "go", kind);
            Edge.refused(Edge::outBack, Edge.STATE, "go", kind);
        }
        SandLorry x = Edge.outOn();
        x.set(0, 39);
        Edge.due("set back on a YARD", x.go(0), 1);
    }

    private static void plan() {
        Edge.of(0, "it is gone through one by one, up to the first that can't be done");
        SandLorry x = Edge.kinds();
        Edge.read(x, "effort;dug;effort;effort");
        x.set(6, 23);
        Edge.due("DUG can't be done", x.plans(0), 1);
        Edge.due("nor what comes behind it", x.follow(), 1);
        Edge.due("YARD", x.now(0), 23);
        Edge.due("THE PLAN stays", x.count(0), 4);
    }

    private static void ahead() {
        Edge.of(0, "What lies AHEAD is tried on a copy; nothing changes.");
        Supplier<SandLorry> maker = Edge::busy;
        String[] alone = {"lasts", "out", "when"};
        for (int slot = 0; slot < 7; slot++) {
            for (String name : alone) {
                stays(maker, name, slot);
            }
            for (int what = 0; what <= 3; what++) {
                stays(maker, "gives", slot, what);
                stays(maker, "effortOf", slot, what);
            }
        }
        for (int what = 0; what <= 3; what++) {
            stays(maker, "plans", what);
        }
        for (int n = 1; n <= 3; n++) {
            stays(maker, "best", n, n - 1);
        }
        for (int n = 1; n <= 9; n += 4) {
            stays(maker, "boardsFor", n);
        }
        for (int s = 0; s < 4; s++) {
            stays(maker, "judge", s);
        }
        stays(maker, "airFor", 20);
        stays(maker, "sacksFor", 20);
        stays(maker, "waterFor");
        stays(maker, "way");
        stays(maker, "soft", 50, 0);
        stays(maker, "yardOf", 3, 1);
    }

    /** Whatever the call answers, nothing changes by it but status(), and that only by a finding. */
    private static void stays(Supplier<SandLorry> maker, String name, int... args) {
        int answer = Edge.call(maker.get(), name, args);
        if (answer <= Edge.BEYOND) {
            Edge.refused(maker, answer, name, args);
        } else {
            Edge.keeps(maker, answer, name, args);
        }
    }

    private static void gainBack() {
        Edge.of(0, "GAIN: by how many YARDS THE LORRY is farther on (back: below 0).");
        SandLorry x = Edge.kinds();
        Edge.due("AHEAD", x.gives(6, 0), -3);
        Edge.due("done", x.go(6), -3);
        Edge.read(x, "backed 2;effort");
        Edge.due("THE PLAN", x.plans(1), -3);
    }

    private static void draws() {
        Edge.of(0, "each makes it z * 1103515245 + 12345 (an int), and gives z >>> 8");
        // Reckoned by long numbers and cut, so that no int wraps here.
        for (int first : new int[] {1, 0, -1, 2, Integer.MAX_VALUE, Integer.MIN_VALUE, 12345, -1000001}) {
            SandLorry x = new SandLorry();
            x.seed(first);
            long z = first & 0xffffffffL;
            int[] firm = new int[40];
            java.util.Arrays.fill(firm, 50);
            for (int i = 0; i < 20; i++) {
                z = z * 1103515245L + 12345L & 0xffffffffL;
                int yard = (int) (z / 256 % 40);
                z = z * 1103515245L + 12345L & 0xffffffffL;
                firm[yard] = (int) (z / 256 % 100);
            }
            x.wind(20);
            Edge.due("z from " + first, x.count(4), (int) z);
            for (int yard = 0; yard < 40; yard++) {
                Edge.due("FIRM of " + yard + " from " + first, x.yardOf(yard, 0), firm[yard]);
            }
        }
    }

    private static void spots() {
        Edge.of(0, "SPOTS 0 to 9 hold an EFFORT (by its slot; nothing, if that holds nothing) or nothing (at first)");
        SandLorry x = new SandLorry();
        for (int spot = 0; spot < 10; spot++) {
            Edge.due("at first", x.as(spot, 0), Edge.MISSING);
            x.hold(spot, 9 - spot);
            Edge.due("its slot holds nothing", x.as(spot, 0), Edge.MISSING);
        }
        x.effort(9, 5);
        x.effort(0, 6);
        Edge.due("then it holds DRAWN", x.as(0, 5), 9);
        Edge.due("and BACKED", x.as(9, 6), 0);
        x.effort(9, -1);
        Edge.due("and nothing again", x.as(0, 5), Edge.MISSING);
    }

    private static void sheets() {
        Edge.of(0, "rows of at most 40 numbers of 8, 16 or 32 bits (told with their sign: of 8 bits 255 is -1), or MISSING (at"
            + " first)");
        SandLorry x = new SandLorry();
        for (int s = 0; s < 4; s++) {
            Edge.due("at first", x.load(s, 0), Edge.MISSING);
        }
        int[] bits = {8, 16, 32};
        int[] minus = {255, 65535, -1};
        for (int i = 0; i < 3; i++) {
            SandLorry back = Edge.on(0);
            Edge.read(back, "backed");
            back.sheet(0, bits[i], 1);
            back.write(0, 0, minus[i]);
            Edge.due("-1 of " + bits[i], back.judge(0), 0);
            if (i < 2) {
                back.sheet(0, bits[i + 1], 1);
                back.write(0, 0, minus[i]);
                Edge.due("no -1 of " + bits[i + 1], back.judge(0), 1);
            }
        }
    }
}
