/** One test at least for each promise of the document; what is due is reckoned by hand from its words. */
public final class SandLorryPromises {
    private static final int BEYOND = -1000001;
    private static final int FULL = -1000002;
    private static final int KIND = -1000003;
    private static final int NONE = -1000004;
    private static final int STATE = -1000005;
    private static final int MISSING = -1000006;
    private static final int SIZE = -1000007;

    private static final int[] HEAT_OF_HOUR = {
        1, 1, 1, 1, 1, 1, 2, 2, 2, 2, 3, 3, 3, 3, 3, 3, 3, 2, 2, 2, 1, 1, 1, 1};
    private static final int[] MINUTES_OF_KIND = {1, 30, 45, 40, 10, 105, 1, 840};
    private static final int[] WORK_OF_KIND = {0, 3, 3, 2, 0, 4, 0, 0};
    private static final int[] DRINK_OF_KIND = {0, 24, 36, 24, 2, 105, 0, 168};

    private static int wrong = 0;
    private static int asked = 0;

    private static void due(int promise, String what, int got, int want) {
        asked++;
        if (got != want) {
            wrong++;
            System.out.println("promise " + promise + ": " + what + " answered " + got + ", due is " + want);
        }
    }

    public static void main(String[] args) {
        newObject();
        sand();
        yardOf();
        set();
        now();
        soft();
        wind();
        effort();
        effortOf();
        go();
        goBoarded();
        goAtTheEdge();
        goByTheHour();
        gives();
        lasts();
        out();
        outAtTheLast();
        when();
        whenByTheHour();
        feed();
        wipe();
        text();
        textFaults();
        textPlanRoom();
        planOf();
        clear();
        follow();
        plans();
        best();
        airFor();
        sacksFor();
        waterFor();
        boardsFor();
        way();
        wayAtTheLast();
        odds();
        seed();
        hold();
        as();
        sheet();
        write();
        copy();
        load();
        judge();
        image();
        undo();
        tear();
        count();
        status();
        System.out.println(asked + " answers asked, " + wrong + " wrong");
        if (wrong != 0) {
            System.exit(1);
        }
    }

    // ---- helpers

    /** A lorry whose slots 0 to 7 hold the KINDS 0 to 7. */
    private static SandLorry withKinds() {
        SandLorry x = new SandLorry();
        for (int kind = 0; kind < 8; kind++) {
            x.effort(kind, kind);
        }
        return x;
    }

    private static void firmAll(SandLorry x, int v) {
        for (int yard = 0; yard < 40; yard++) {
            x.sand(yard, v);
        }
    }

    /** One person digs for half an hour at a time on sand too soft to go on. */
    private static SandLorry digger(int firm, int times) {
        SandLorry x = withKinds();
        x.set(5, 1);
        x.set(6, 9999);
        firmAll(x, firm);
        for (int i = 0; i < times; i++) {
            x.go(1);
        }
        return x;
    }

    private static void feedAll(SandLorry x, String text) {
        for (int i = 0; i < text.length(); i++) {
            x.feed(text.charAt(i), 1);
        }
    }

    private static int read(SandLorry x, String text) {
        feedAll(x, text);
        return x.text();
    }

    private static SandLorry driveOut(int yard, int slot) {
        SandLorry x = withKinds();
        x.set(0, yard);
        x.go(slot);
        return x;
    }

    private static String stateOf(SandLorry x) {
        StringBuilder all = new StringBuilder();
        for (int what = 0; what <= 13; what++) {
            all.append(x.now(what)).append(' ');
        }
        for (int yard = 0; yard < 40; yard++) {
            all.append(x.yardOf(yard, 0)).append(' ');
        }
        for (int what = 0; what <= 5; what++) {
            all.append(x.count(what)).append(' ');
        }
        return all.toString();
    }

    private static void same(int promise, String what, String got, String want) {
        asked++;
        if (!got.equals(want)) {
            wrong++;
            System.out.println("promise " + promise + ": " + what + ": " + got + ", due is " + want);
        }
    }

    // ---- 1 to 7

    private static void newObject() {
        SandLorry x = new SandLorry();
        int[] want = {20, 0, 20, 0, 2, 4, 900, 0, 14, 3, 30, 0, 0, 0};
        for (int what = 0; what < want.length; what++) {
            due(1, "now(" + what + ")", x.now(what), want[what]);
        }
        for (int yard = 0; yard < 40; yard++) {
            due(1, "yardOf(" + yard + ", 0)", x.yardOf(yard, 0), 50);
        }
        int[] counts = {0, 0, 0, 0, 1, 2000};
        for (int what = 0; what < counts.length; what++) {
            due(1, "count(" + what + ")", x.count(what), counts[what]);
        }
        for (int i = 0; i < 10; i++) {
            due(1, "effortOf(" + i + ", 0)", x.effortOf(i, 0), NONE);
            due(1, "as(" + i + ", 0)", x.as(i, 0), MISSING);
        }
        for (int s = 0; s < 4; s++) {
            due(1, "judge(" + s + ")", x.judge(s), MISSING);
        }
        due(1, "undo()", x.undo(), NONE);
        due(1, "tear()", x.tear(), 0);
        due(1, "wipe()", x.wipe(), 0);
        due(1, "status(-1)", x.status(-1), 25);
    }

    private static void sand() {
        SandLorry x = new SandLorry();
        due(2, "sand(0, 0)", x.sand(0, 0), 50);
        due(2, "sand(0, 99)", x.sand(0, 99), 0);
        due(2, "sand(39, 7)", x.sand(39, 7), 50);
        due(2, "sand(-1, 0)", x.sand(-1, 0), BEYOND);
        due(2, "sand(40, 0)", x.sand(40, 0), BEYOND);
        due(2, "sand(0, -1)", x.sand(0, -1), BEYOND);
        due(2, "sand(0, 100)", x.sand(0, 100), BEYOND);
        due(2, "sand(MIN, MAX)", x.sand(Integer.MIN_VALUE, Integer.MAX_VALUE), BEYOND);
        due(2, "yardOf(0, 0)", x.yardOf(0, 0), 99);
        due(2, "yardOf(39, 0)", x.yardOf(39, 0), 7);
    }

    private static void yardOf() {
        SandLorry x = withKinds();
        x.set(3, 9);
        due(3, "GRIP with AIR 9", x.yardOf(5, 1), 77);
        due(3, "FIRM with AIR 9", x.yardOf(5, 0), 50);
        due(3, "yardOf(-1, 0)", x.yardOf(-1, 0), BEYOND);
        due(3, "yardOf(40, 1)", x.yardOf(40, 1), BEYOND);
        due(3, "yardOf(0, -1)", x.yardOf(0, -1), BEYOND);
        due(3, "yardOf(0, 2)", x.yardOf(0, 2), BEYOND);
        SandLorry y = digger(0, 0);
        y.set(2, 99);
        due(3, "GRIP at 14", y.yardOf(0, 1), 0);
        y.go(7);
        for (int half = 0; half < 8; half++) {
            due(3, "GRIP " + half + " half hours behind 4", y.yardOf(0, 1), 20);
            y.go(1);
        }
        due(3, "HOUR behind these", y.now(8), 8);
        due(3, "GRIP at 8", y.yardOf(0, 1), 0);
    }

    private static void set() {
        SandLorry x = withKinds();
        int[] first = {20, 0, 20, 0, 2, 4, 900};
        int[] least = {0, 0, 0, 0, 0, 1, 0};
        int[] most = {39, 99, 99, 9, 8, 8, 9999};
        for (int what = 0; what <= 6; what++) {
            due(4, "set to the least of " + what, x.set(what, least[what]), first[what]);
            due(4, "set to the most of " + what, x.set(what, most[what]), least[what]);
            due(4, "below the least of " + what, x.set(what, least[what] - 1), BEYOND);
            due(4, "above the most of " + what, x.set(what, most[what] + 1), BEYOND);
            due(4, "now of " + what, x.now(what), most[what]);
        }
        due(4, "set(-1, 1)", x.set(-1, 1), BEYOND);
        due(4, "set(7, 1)", x.set(7, 1), BEYOND);
        due(4, "YARD was 40", driveOut(39, 0).set(0, 5), 40);
        due(4, "YARD was -1", driveOut(0, 6).set(0, 5), -1);
    }

    private static void now() {
        SandLorry x = digger(0, 0);
        x.set(2, 99);
        for (int half = 0; half < 48; half++) {
            int hour = (14 + half / 2) % 24;
            due(5, "MINUTE at half hour " + half, x.now(7), 30 * half);
            due(5, "HOUR at half hour " + half, x.now(8), hour);
            due(5, "HEAT at hour " + hour, x.now(9), HEAT_OF_HOUR[hour]);
            x.go(1);
        }
        due(5, "drunk in a day", x.now(12), 180);
        due(5, "WATER behind a day", x.now(6), 9999 - 180);
        due(5, "PUSHES, failed ones too", x.now(13), 48);
        due(5, "WEIGHT", x.now(10), 20 + 49 + 4);
        due(5, "not OUT", x.now(11), 0);
        x.set(6, 0);
        due(5, "drunk, WATER set", x.now(12), 180);
        due(5, "OUT behind 39", driveOut(39, 0).now(11), 1);
        due(5, "YARD behind 39", driveOut(39, 0).now(0), 40);
        due(5, "PUSHES end OUT", driveOut(39, 0).now(13), 1);
        due(5, "OUT ahead of 0", driveOut(0, 6).now(11), 1);
        due(5, "YARD ahead of 0", driveOut(0, 6).now(0), -1);
        due(5, "now(-1)", x.now(-1), BEYOND);
        due(5, "now(14)", x.now(14), BEYOND);
    }

    private static void soft() {
        SandLorry x = new SandLorry();
        x.sand(3, 10);
        x.sand(4, 10);
        x.sand(10, 10);
        x.sand(11, 10);
        due(6, "two rows of two, how many", x.soft(11, 0), 2);
        due(6, "two rows of two, the first", x.soft(11, 1), 3);
        due(6, "none is less", x.soft(10, 0), 0);
        due(6, "none is less, the first", x.soft(10, 1), -1);
        x.sand(37, 5);
        x.sand(38, 5);
        x.sand(39, 10);
        due(6, "a row at the end", x.soft(11, 0), 3);
        due(6, "a row at the end, the first", x.soft(11, 1), 37);
        due(6, "all", x.soft(100, 0), 40);
        due(6, "none", x.soft(0, 1), -1);
        due(6, "soft(-1, 0)", x.soft(-1, 0), BEYOND);
        due(6, "soft(101, 0)", x.soft(101, 0), BEYOND);
        due(6, "soft(5, 2)", x.soft(5, 2), BEYOND);
        due(6, "soft(5, -1)", x.soft(5, -1), BEYOND);
    }

    private static void wind() {
        int[] amounts = {1, 2, 60};
        for (int n : amounts) {
            SandLorry x = new SandLorry();
            x.seed(77);
            int[] firm = new int[40];
            java.util.Arrays.fill(firm, 50);
            int z = 77;
            for (int i = 0; i < n; i++) {
                z = z * 1103515245 + 12345;
                int yard = (z >>> 8) % 40;
                z = z * 1103515245 + 12345;
                firm[yard] = (z >>> 8) % 100;
            }
            int sum = 0;
            for (int v : firm) {
                sum += v;
            }
            due(7, "wind(" + n + ")", x.wind(n), sum);
            due(7, "z behind it", x.count(4), z);
            for (int yard = 0; yard < 40; yard++) {
                due(7, "FIRM of " + yard, x.yardOf(yard, 0), firm[yard]);
            }
        }
        SandLorry x = new SandLorry();
        due(7, "wind(0)", x.wind(0), BEYOND);
        due(7, "wind(61)", x.wind(61), BEYOND);
        due(7, "z without wind", x.count(4), 1);
    }

    // ---- 8 to 14

    private static void effort() {
        SandLorry x = new SandLorry();
        due(8, "effort(9, 7)", x.effort(9, 7), 1);
        due(8, "its KIND", x.effortOf(9, 0), 7);
        due(8, "effort(9, 0)", x.effort(9, 0), 1);
        due(8, "its KIND then", x.effortOf(9, 0), 0);
        due(8, "effort(9, -1)", x.effort(9, -1), 1);
        due(8, "nothing", x.effortOf(9, 0), NONE);
        due(8, "effort(-1, 0)", x.effort(-1, 0), BEYOND);
        due(8, "effort(10, 0)", x.effort(10, 0), BEYOND);
        due(8, "effort(0, 8)", x.effort(0, 8), BEYOND);
        due(8, "effort(0, -2)", x.effort(0, -2), BEYOND);
        due(8, "still nothing", x.count(1), 0);
    }

    private static void effortOf() {
        SandLorry x = withKinds();
        for (int kind = 0; kind < 8; kind++) {
            due(9, "KIND", x.effortOf(kind, 0), kind);
            due(9, "MINUTES of " + kind, x.effortOf(kind, 1), MINUTES_OF_KIND[kind]);
            due(9, "WORK of " + kind, x.effortOf(kind, 2), WORK_OF_KIND[kind]);
            due(9, "DRINK of " + kind, x.effortOf(kind, 3), DRINK_OF_KIND[kind]);
        }
        x.set(6, 0);
        due(9, "DRINK without WATER", x.effortOf(5, 3), 105);
        x.go(0);
        due(9, "WAITED a minute later", x.effortOf(7, 1), 839);
        due(9, "cut", x.effortOf(7, 3), 167);
        x.set(6, 9999);
        x.go(7);
        due(9, "WAITED at 4", x.effortOf(7, 1), 1440);
        due(9, "OUT", driveOut(39, 0).effortOf(1, 1), 30);
        due(9, "BEYOND ahead of NONE", x.effortOf(8, 4), BEYOND);
        due(9, "effortOf(8, -1)", x.effortOf(8, -1), BEYOND);
        due(9, "effortOf(10, 0)", x.effortOf(10, 0), BEYOND);
        due(9, "effortOf(-1, 0)", x.effortOf(-1, 0), BEYOND);
        due(9, "NONE", x.effortOf(8, 0), NONE);
    }

    private static void go() {
        SandLorry x = withKinds();
        due(10, "EFFORT", x.go(0), 3);
        due(10, "its PUSHES", x.now(13), 3);
        due(10, "BACKED", x.go(6), -3);
        due(10, "back where it was", x.now(0), 20);
        x.set(1, 45);
        due(10, "DUG", x.go(1), 3);
        due(10, "not SUNK", x.now(1), 0);
        due(10, "WATER", x.now(6), 876);
        x = withKinds();
        firmAll(x, 0);
        x.set(1, 45);
        due(10, "DUG, too soft", x.go(1), 0);
        due(10, "SUNK 45 less 40 and 4", x.now(1), 9);
        x.set(1, 97);
        x.go(0);
        due(10, "SUNK at most", x.now(1), 99);
        x.set(1, 3);
        due(10, "back, too soft", x.go(6), 0);
        due(10, "SUNK by going back", x.now(1), 7);
        x = withKinds();
        firmAll(x, 25);
        due(10, "LIGHTENED", x.go(3), 3);
        due(10, "SACKS", x.now(2), 10);
        x.set(2, 5);
        x.go(3);
        due(10, "SACKS at least", x.now(2), 0);
        x = withKinds();
        firmAll(x, 21);
        due(10, "LETDOWN", x.go(4), 3);
        due(10, "AIR", x.now(3), 3);
        x.set(3, 8);
        x.go(4);
        due(10, "AIR at most", x.now(3), 9);
        x = withKinds();
        due(10, "WAITED", x.go(7), 0);
        due(10, "till HOUR 4", x.now(7), 840);
        due(10, "without PUSHES", x.now(13), 0);
        x.set(6, 0);
        due(10, "BEYOND", x.go(10), BEYOND);
        due(10, "BEYOND", x.go(-1), BEYOND);
        due(10, "NONE", x.go(8), NONE);
        String was = stateOf(x);
        due(10, "STATE: no WATER", x.go(1), STATE);
        same(10, "STATE changes nothing", stateOf(x), was);
        x.set(6, 8);
        due(10, "just WATER enough", x.go(1), 3);
        due(10, "WATER then", x.now(6), 0);
        for (int kind = 0; kind < 8; kind++) {
            due(10, "OUT, KIND " + kind, driveOut(39, 0).go(kind), STATE);
            due(10, "OUT ahead, KIND " + kind, driveOut(0, 6).go(kind), STATE);
        }
    }

    private static void goBoarded() {
        int[] gainWithBoards = {0, 1, 2, 3, 5, 6, 7, 8, 9};
        for (int boards = 0; boards <= 8; boards++) {
            SandLorry x = withKinds();
            for (int yard = 20; yard < 24; yard++) {
                x.sand(yard, 10);
            }
            x.set(4, boards);
            due(10, "BOARDED with " + boards, x.go(2), gainWithBoards[boards]);
            due(10, "BOARDS stay", x.now(4), boards);
        }
        SandLorry x = withKinds();
        x.set(4, 1);
        x.sand(20, 10);
        due(10, "3 PUSHES at least", x.go(2), 3);
        x = withKinds();
        x.set(4, 0);
        firmAll(x, 15);
        due(10, "DRAWN without BOARDS", x.go(5), 3);
        firmAll(x, 14);
        due(10, "DRAWN, too soft", x.go(5), 0);
        x = withKinds();
        firmAll(x, 0);
        x.set(2, 50);
        due(10, "DRAWN on BOARDS", x.go(5), 2);
        due(10, "SUNK at the third", x.now(1), 4);
        x = withKinds();
        x.sand(20, 30);
        x.sand(19, 0);
        due(10, "no BOARDS in going back", x.go(6), -1);
    }

    private static void goAtTheEdge() {
        SandLorry x = withKinds();
        firmAll(x, 29);
        due(10, "GRIP is one less", x.go(0), 0);
        x.set(1, 0);
        due(10, "back, GRIP is one less", x.go(6), 0);
        x.set(1, 0);
        firmAll(x, 30);
        due(10, "GRIP is WEIGHT", x.go(0), 3);
        due(10, "back, GRIP is WEIGHT", x.go(6), -3);
        x.set(2, 22);
        firmAll(x, 0);
        due(10, "BOARDED, GRIP is one less", x.go(2), 0);
        x.set(0, 0);
        x.set(2, 20);
        due(10, "no BOARDS under YARD 0", x.go(0), 0);
    }

    private static void goByTheHour() {
        SandLorry x = digger(20, 27);
        due(10, "HOUR", x.now(8), 3);
        due(10, "SUNK", x.now(1), 4);
        due(10, "the crust holds as the minutes have gone", x.go(1), 3);
        SandLorry y = digger(0, 5);
        due(10, "HOUR 16", y.now(8), 16);
        int water = y.now(6);
        y.go(1);
        due(10, "HEAT as it begins", water - y.now(6), 6);
        due(10, "HEAT behind it", y.now(9), 2);
    }

    private static void gives() {
        SandLorry x = withKinds();
        firmAll(x, 10);
        x.set(1, 8);
        String was = stateOf(x);
        due(11, "GAIN of BOARDED", x.gives(2, 0), 2);
        due(11, "MINUTES", x.gives(2, 1), 45);
        due(11, "drunk", x.gives(2, 2), 36);
        due(11, "SUNK", x.gives(2, 3), 4);
        due(11, "SUNK of EFFORT", x.gives(0, 3), 12);
        due(11, "MINUTES of WAITED", x.gives(7, 1), 840);
        same(11, "nothing changes", stateOf(x), was);
        firmAll(x, 50);
        due(11, "GAIN of BACKED", x.gives(6, 0), -3);
        due(11, "BEYOND ahead of NONE", x.gives(9, 4), BEYOND);
        due(11, "gives(0, -1)", x.gives(0, -1), BEYOND);
        due(11, "gives(10, 0)", x.gives(10, 0), BEYOND);
        due(11, "gives(-1, 0)", x.gives(-1, 0), BEYOND);
        x.set(6, 35);
        due(11, "STATE: WATER", x.gives(2, 0), STATE);
        due(11, "NONE", x.gives(9, 0), NONE);
        due(11, "STATE: OUT", driveOut(39, 0).gives(0, 0), STATE);
        due(11, "NONE ahead of STATE", driveOut(39, 0).gives(9, 0), NONE);
    }

    private static void lasts() {
        SandLorry x = digger(0, 0);
        x.set(6, 11);
        String was = stateOf(x);
        due(12, "11 litres", x.lasts(1), 1);
        same(12, "nothing changes", stateOf(x), was);
        x.set(6, 12);
        due(12, "12 litres", x.lasts(1), 2);
        x.set(6, 5);
        due(12, "5 litres", x.lasts(1), 0);
        due(12, "50 at most", x.lasts(0), 50);
        due(12, "NONE", x.lasts(9), NONE);
        due(12, "BEYOND", x.lasts(10), BEYOND);
        due(12, "BEYOND", x.lasts(-1), BEYOND);
        due(12, "till OUT", withKinds().lasts(0), 7);
        due(12, "OUT", driveOut(39, 0).lasts(0), 0);
    }

    private static void out() {
        SandLorry x = withKinds();
        String was = stateOf(x);
        due(13, "on", x.out(0), 7);
        due(13, "back", x.out(6), 7);
        same(13, "nothing changes", stateOf(x), was);
        due(13, "never by WAITED", x.out(7), NONE);
        x.set(6, 24 * 6);
        due(13, "WATER for six", x.out(1), NONE);
        due(13, "nothing in the slot", x.out(9), NONE);
        due(13, "BEYOND", x.out(10), BEYOND);
        due(13, "BEYOND", x.out(-1), BEYOND);
        due(13, "OUT now", driveOut(39, 0).out(0), 0);
        due(13, "OUT now, by WAITED", driveOut(0, 6).out(7), 0);
        due(13, "OUT now, nothing in the slot", driveOut(39, 0).out(9), NONE);
    }

    /** From 8 on forty times digging brings nothing, then the crust, then firm sand. */
    private static SandLorry diggerAtEight(int yard) {
        SandLorry x = digger(0, 0);
        x.set(2, 99);
        x.go(7);
        for (int half = 0; half < 8; half++) {
            x.go(1);
        }
        x.set(2, 20);
        x.set(1, 0);
        x.set(0, yard);
        firmAll(x, 50);
        for (int soft = yard; soft < yard + 24; soft++) {
            x.sand(soft, 10);
        }
        return x;
    }

    private static void outAtTheLast() {
        due(13, "HOUR", diggerAtEight(8).now(8), 8);
        due(13, "OUT behind the 50th", diggerAtEight(8).out(1), 50);
        due(13, "would be OUT behind the 51st", diggerAtEight(6).out(1), NONE);
        due(13, "OUT behind the 49th", diggerAtEight(10).out(1), 49);
    }

    private static void whenByTheHour() {
        SandLorry x = digger(10, 20);
        due(14, "HOUR 0", x.now(8), 0);
        firmAll(x, 50);
        due(14, "all alike at 0", x.when(0), 0);
        SandLorry y = digger(10, 26);
        y.set(1, 0);
        due(14, "HOUR 3", y.now(8), 3);
        due(14, "an hour on", y.when(0), 4);
        SandLorry z = digger(0, 0);
        z.set(2, 99);
        for (int half = 0; half < 48; half++) {
            z.go(1);
        }
        z.set(2, 20);
        z.set(1, 0);
        z.set(4, 0);
        due(14, "a day on", z.now(7), 1440);
        due(14, "to the HOUR's begin", z.when(5), 3);
    }

    private static void when() {
        SandLorry x = withKinds();
        due(14, "all alike: that of now", x.when(0), 14);
        due(14, "BACKED all alike", x.when(6), 14);
        firmAll(x, 10);
        String was = stateOf(x);
        due(14, "the crust", x.when(0), 4);
        same(14, "nothing changes", stateOf(x), was);
        due(14, "back: the least far", x.when(6), 14);
        x.set(4, 0);
        firmAll(x, 0);
        due(14, "DRAWN ends in the crust", x.when(5), 3);
        SandLorry y = digger(10, 27);
        due(14, "HOUR", y.now(8), 3);
        due(14, "that of now as it is", y.when(1), 3);
        SandLorry w = withKinds();
        w.set(6, 10);
        due(14, "the first for which WATER does", w.when(1), 20);
        w.set(6, 7);
        due(14, "in none", w.when(1), NONE);
        due(14, "nothing in the slot", w.when(9), NONE);
        due(14, "BEYOND", w.when(10), BEYOND);
        due(14, "BEYOND", w.when(-1), BEYOND);
        due(14, "OUT", driveOut(39, 0).when(0), NONE);
    }

    // ---- 15 to 22

    private static void feed() {
        SandLorry x = new SandLorry();
        due(15, "three bytes", x.feed(0x41647567, 3), 3);
        due(15, "the highest first", x.text(), 1);
        due(15, "DUG", x.planOf(0), 1);
        due(15, "n 0", x.feed(0, 0), BEYOND);
        due(15, "n 5", x.feed(0, 5), BEYOND);
        for (int i = 1; i <= 29; i++) {
            due(15, "four more", x.feed(-1, 4), 4 * i);
        }
        due(15, "up to 118", x.feed(0, 2), 118);
        due(15, "three are too many", x.feed(0, 3), FULL);
        due(15, "as many as before", x.count(3), 118);
        due(15, "two aren't", x.feed(0, 2), 120);
        due(15, "full", x.feed(0, 1), FULL);
        due(15, "BEYOND ahead of FULL", x.feed(0, 5), BEYOND);
    }

    private static void wipe() {
        SandLorry x = new SandLorry();
        x.feed(0, 3);
        due(16, "three", x.wipe(), 3);
        due(16, "none", x.wipe(), 0);
        due(16, "from the begin again", x.feed(0, 1), 1);
    }

    private static void text() {
        SandLorry x = new SandLorry();
        int plan = read(x, "sand 0 1 2 99; sacks 7;air 9;boards 0;people 8;water 9999;effort;dug 2;boarded;lightened");
        due(17, "KINDS", plan, 5);
        due(17, "FIRM of 0", x.yardOf(0, 0), 1);
        due(17, "FIRM of 2", x.yardOf(2, 0), 99);
        due(17, "FIRM of 3", x.yardOf(3, 0), 50);
        int[] want = {20, 0, 7, 9, 0, 8, 9999};
        for (int what = 0; what < want.length; what++) {
            due(17, "now(" + what + ")", x.now(what), want[what]);
        }
        due(17, "added", read(x, "letdown;drawn;backed;waited"), 9);
        int[] kinds = {0, 1, 1, 2, 3, 4, 5, 6, 7};
        for (int i = 0; i < kinds.length; i++) {
            due(17, "KIND " + i, x.planOf(i), kinds[i]);
        }
        due(17, "THE TAPE is empty", x.count(3), 0);
        due(17, "once", read(new SandLorry(), "dug 1"), 1);
        due(17, "without blanks", read(x, "sand39 0;dug9"), 18);
        due(17, "FIRM of 39", x.yardOf(39, 0), 0);
        due(17, "item by item", read(x, "  water 5 ; water 00000000000000006  "), 18);
        due(17, "the latest", x.now(6), 6);
        SandLorry y = new SandLorry();
        StringBuilder all = new StringBuilder("sand 0");
        for (int yard = 0; yard < 40; yard++) {
            all.append(' ').append(yard % 10);
        }
        due(17, "forty NUMBERS", read(y, all.toString()), 0);
        due(17, "FIRM of 38", y.yardOf(38, 0), 8);
        due(17, "the 41st", read(y, all.append(" 7").toString()), -1 - 87);
        due(17, "no finding", y.status(-1), 0);
    }

    private static void fault(String text, int place) {
        SandLorry x = new SandLorry();
        read(x, "dug");
        String was = stateOf(x);
        due(17, "FAULT of '" + text + "'", read(x, text), -1 - place);
        same(17, "nothing changes by '" + text + "'", stateOf(x), was);
        due(17, "no finding by '" + text + "'", x.status(-1), 0);
    }

    private static void textFaults() {
        fault("", 0);
        fault("   ", 3);
        fault(";", 0);
        fault("mud", 0);
        fault("  mud", 2);
        fault("Dug", 0);
        fault("dug;", 4);
        fault("dug ; ", 6);
        fault("dug dug", 4);
        fault("dug;;dug", 4);
        fault("dug 0", 4);
        fault("dug 10", 4);
        fault("dug 2 3", 6);
        fault("dug $", 4);
        fault("dug\tdug", 3);
        fault("dugs", 0);
        fault("du", 0);
        fault("5", 0);
        fault("bug", 0);
        fault("zand 1 2", 0);
        fault("dug 2;sand", 10);
        fault("sand 3", 6);
        fault("sand ;", 5);
        fault("sand 40 1", 5);
        fault("sand 3 ; dug", 7);
        fault("sand 3 5 100", 9);
        fault("sand 39 5 5", 10);
        fault("sand 3 5 dug", 9);
        fault("sand x", 5);
        fault("sacks", 5);
        fault("sacks dug", 6);
        fault("sacks 100", 6);
        fault("sacks 5 5", 8);
        fault("air 10", 4);
        fault("boards 9", 7);
        fault("people 0", 7);
        fault("people 9", 7);
        fault("water 10000", 6);
        fault("water 4294967297", 6);
        fault("dug;water 5;sunk 3", 12);
        fault("water 5;water 7;air 3;sand 1 2 3;dug 3;" + (char) 233, 39);
        fault("dug " + (char) 0, 4);
    }

    private static void textPlanRoom() {
        SandLorry x = new SandLorry();
        due(17, "eighteen", read(x, "dug 9;dug 9"), 18);
        due(17, "three more: the NUMBER", read(x, "dug 3"), -1 - 4);
        due(17, "one by one: the WORD", read(x, "dug;dug;dug"), -1 - 8);
        due(17, "two more", read(x, "waited 2"), 20);
        due(17, "one more: the WORD", read(x, "dug"), -1);
        due(17, "the WORD, even with a NUMBER", read(x, "air 3;dug 2"), -1 - 6);
        due(17, "AIR as it was", x.now(3), 0);
        due(17, "what needs no room", read(x, "air 3"), 20);
        due(17, "the last one", x.planOf(19), 7);
    }

    private static void planOf() {
        SandLorry x = new SandLorry();
        due(18, "none", x.planOf(0), BEYOND);
        read(x, "drawn;backed 2");
        due(18, "first", x.planOf(0), 5);
        due(18, "last", x.planOf(2), 6);
        due(18, "behind it", x.planOf(3), BEYOND);
        due(18, "ahead of it", x.planOf(-1), BEYOND);
        due(18, "20", x.planOf(20), BEYOND);
    }

    private static void clear() {
        SandLorry x = new SandLorry();
        read(x, "drawn;backed 2");
        due(19, "three", x.clear(), 3);
        due(19, "none", x.clear(), 0);
        due(19, "planOf(0)", x.planOf(0), BEYOND);
        due(19, "from the begin again", read(x, "dug"), 1);
        due(19, "KIND", x.planOf(0), 1);
    }

    private static void follow() {
        SandLorry x = new SandLorry();
        due(20, "none", x.follow(), 0);
        read(x, "dug;backed;lightened;effort 2");
        due(20, "five", x.follow(), 5);
        due(20, "YARD", x.now(0), 29);
        due(20, "SACKS", x.now(2), 10);
        due(20, "WATER", x.now(6), 900 - 48);
        due(20, "MINUTE", x.now(7), 73);
        due(20, "THE PLAN stays", x.count(0), 5);
        x.set(6, 23);
        due(20, "WATER for none", x.follow(), 0);
        x.set(6, 9999);
        x.clear();
        read(x, "effort 9");
        due(20, "till OUT", x.follow(), 4);
        due(20, "YARD", x.now(0), 40);
        due(20, "OUT", x.follow(), 0);
    }

    private static void plans() {
        SandLorry x = new SandLorry();
        for (int what = 0; what <= 3; what++) {
            due(21, "empty, " + what, x.plans(what), 0);
        }
        read(x, "dug;backed;lightened;effort 2");
        String was = stateOf(x);
        due(21, "done", x.plans(0), 5);
        due(21, "GAIN", x.plans(1), 9);
        due(21, "drunk", x.plans(2), 48);
        due(21, "MINUTES", x.plans(3), 73);
        same(21, "nothing changes", stateOf(x), was);
        x.set(6, 24);
        due(21, "done with 24", x.plans(0), 2);
        due(21, "MINUTES with 24", x.plans(3), 31);
        due(21, "plans(-1)", x.plans(-1), BEYOND);
        due(21, "plans(4)", x.plans(4), BEYOND);
    }

    private static void best() {
        SandLorry x = new SandLorry();
        firmAll(x, 0);
        x.set(2, 99);
        due(22, "three: the crust, air and a rope", x.best(3, 2), 475);
        due(22, "their GAIN", x.best(3, 0), 2);
        due(22, "their drunk", x.best(3, 1), 203);
        x.set(4, 0);
        for (int n = 1; n <= 3; n++) {
            for (int what = 0; what <= 2; what++) {
                due(22, "nothing helps, " + n + ", " + what, x.best(n, what), 0);
            }
        }
        x = new SandLorry();
        x.set(0, 39);
        String was = stateOf(x);
        due(22, "a row that is OUT too early doesn't count", x.best(2, 0), 1);
        due(22, "drunk", x.best(2, 1), 168);
        due(22, "WAITED, EFFORT", x.best(2, 2), 70);
        due(22, "one alone", x.best(1, 2), 0);
        same(22, "nothing changes", stateOf(x), was);
        x.set(4, 8);
        due(22, "drunk, by BOARDS", x.best(2, 1), 36);
        due(22, "BACKED, BOARDED", x.best(2, 2), 62);
        x = new SandLorry();
        x.sand(20, 21);
        due(22, "of as much GAIN the least drunk", x.best(1, 1), 2);
        due(22, "LETDOWN", x.best(1, 2), 4);
        due(22, "three: GAIN", x.best(3, 0), 9);
        due(22, "three: drunk", x.best(3, 1), 2);
        due(22, "three: digits", x.best(3, 2), 400);
        due(22, "best(0, 0)", x.best(0, 0), BEYOND);
        due(22, "best(4, 0)", x.best(4, 0), BEYOND);
        due(22, "best(1, -1)", x.best(1, -1), BEYOND);
        due(22, "best(1, 3)", x.best(1, 3), BEYOND);
        SandLorry y = driveOut(39, 0);
        due(22, "OUT", y.best(1, 0), NONE);
        due(22, "BEYOND ahead of NONE", y.best(1, 3), BEYOND);
        y.set(0, 39);
        due(22, "OUT by the first", y.best(1, 0), 1);
        y.set(6, 0);
        y.set(4, 2);
        due(22, "BACKED, EFFORT: without WATER", y.best(2, 2), 60);
        due(22, "its GAIN", y.best(2, 0), 0);
    }

    // ---- 23 to 29

    private static void airFor() {
        SandLorry x = withKinds();
        x.sand(3, 10);
        due(23, "firm enough", x.airFor(4), 0);
        due(23, "20 are missing", x.airFor(3), 7);
        x.set(3, 9);
        due(23, "whatever AIR is now", x.airFor(3), 7);
        x.set(1, 7);
        due(23, "27 are missing", x.airFor(3), 9);
        x.set(1, 8);
        due(23, "28 are missing", x.airFor(3), NONE);
        x.go(7);
        due(23, "with the crust", x.airFor(3), 3);
        due(23, "airFor(-1)", x.airFor(-1), BEYOND);
        due(23, "airFor(40)", x.airFor(40), BEYOND);
        due(23, "OUT", driveOut(39, 0).airFor(0), 0);
    }

    private static void sacksFor() {
        SandLorry x = withKinds();
        x.sand(3, 30);
        x.sand(4, 20);
        x.sand(5, 19);
        x.sand(6, 99);
        x.set(1, 99);
        due(24, "half is cut, SUNK 0", x.sacksFor(3), 21);
        due(24, "as firm as the lorry weighs", x.sacksFor(4), 1);
        due(24, "too soft", x.sacksFor(5), NONE);
        due(24, "the most", x.sacksFor(6), 99);
        x.set(3, 3);
        due(24, "AIR of now", x.sacksFor(3), 39);
        x.go(7);
        due(24, "the crust", x.sacksFor(5), 57);
        due(24, "sacksFor(-1)", x.sacksFor(-1), BEYOND);
        due(24, "sacksFor(40)", x.sacksFor(40), BEYOND);
        due(24, "OUT", driveOut(39, 0).sacksFor(0), 61);
    }

    private static void waterFor() {
        SandLorry x = new SandLorry();
        due(25, "empty", x.waterFor(), 0);
        due(25, "empty and OUT", driveOut(39, 0).waterFor(), 0);
        read(x, "dug 2");
        x.set(6, 0);
        String was = stateOf(x);
        due(25, "two", x.waterFor(), 48);
        same(25, "nothing changes", stateOf(x), was);
        x.set(6, 47);
        due(25, "a litre less", x.plans(0), 1);
        x.set(6, 48);
        due(25, "so much", x.plans(0), 2);
        x.clear();
        read(x, "effort 7");
        due(25, "OUT at the end", x.waterFor(), 0);
        read(x, "effort");
        due(25, "OUT ahead of that", x.waterFor(), NONE);
        SandLorry y = driveOut(39, 0);
        read(y, "waited");
        due(25, "OUT now", y.waterFor(), NONE);
    }

    private static void boardsFor() {
        SandLorry x = new SandLorry();
        due(26, "none needed", x.boardsFor(3), 0);
        due(26, "for a fourth PUSH", x.boardsFor(4), 3);
        due(26, "for nine", x.boardsFor(9), 8);
        firmAll(x, 10);
        String was = stateOf(x);
        for (int n = 1; n <= 8; n++) {
            due(26, "soft, " + n, x.boardsFor(n), n);
        }
        due(26, "soft, 9", x.boardsFor(9), NONE);
        same(26, "nothing changes", stateOf(x), was);
        x.set(6, 35);
        due(26, "no WATER", x.boardsFor(1), NONE);
        due(26, "boardsFor(0)", x.boardsFor(0), BEYOND);
        due(26, "boardsFor(10)", x.boardsFor(10), BEYOND);
        due(26, "OUT", driveOut(39, 0).boardsFor(1), NONE);
    }

    private static void way() {
        SandLorry x = new SandLorry();
        due(27, "as many", x.way(), 1);
        x.set(0, 18);
        due(27, "8 on, 7 back", x.way(), -1);
        x.set(0, 21);
        due(27, "7 on, 8 back", x.way(), 1);
        x.sand(30, 0);
        String was = stateOf(x);
        due(27, "only back", x.way(), -1);
        same(27, "nothing changes", stateOf(x), was);
        x.sand(10, 0);
        due(27, "neither", x.way(), 0);
        x.sand(30, 50);
        due(27, "only on", x.way(), 1);
        due(27, "OUT", driveOut(39, 0).way(), 1);
        due(27, "OUT at the other end", driveOut(0, 6).way(), 1);
    }

    /** Sunk as deep as can be, just firm enough for the crust. */
    private static SandLorry beforeTheCrust(int yard, boolean isTwentyAhead) {
        SandLorry x = digger(0, 27);
        for (int i = 0; i < 9; i++) {
            x.go(0);
        }
        if (isTwentyAhead) {
            x.go(0);
        }
        x.set(0, yard);
        x.set(1, 99);
        x.set(2, 40);
        x.set(3, 9);
        x.sand(yard, 99);
        return x;
    }

    private static void wayAtTheLast() {
        due(27, "MINUTE", beforeTheCrust(39, true).now(7), 820);
        due(27, "on behind the 20th", beforeTheCrust(39, true).way(), 1);
        due(27, "back behind the 20th", beforeTheCrust(0, true).way(), -1);
        due(27, "on behind the 21st", beforeTheCrust(39, false).way(), 0);
        due(27, "back behind the 21st", beforeTheCrust(0, false).way(), 0);
    }

    private static void odds() {
        for (int first = -40; first < 40; first++) {
            int n = 1 + (first + 40) % 20;
            SandLorry x = new SandLorry();
            x.seed(first);
            x.set(3, 2);
            x.set(1, 30);
            int z = first;
            int often = 0;
            for (int i = 0; i < n; i++) {
                z = z * 1103515245 + 12345;
                if ((z >>> 8) % 100 + 6 >= 60) {
                    often++;
                }
            }
            due(28, "odds(" + n + ")", x.odds(n), often);
            due(28, "z", x.count(4), z);
            due(28, "SUNK", x.now(1), 30);
            due(28, "PUSHES", x.now(13), 0);
            due(28, "FIRM", x.yardOf(20, 0), 50);
        }
        SandLorry y = driveOut(39, 0);
        due(28, "BEYOND ahead of STATE", y.odds(0), BEYOND);
        due(28, "odds(21)", y.odds(21), BEYOND);
        due(28, "STATE", y.odds(1), STATE);
        due(28, "z without draws", y.count(4), 1);
    }

    private static void seed() {
        SandLorry x = new SandLorry();
        due(29, "at first", x.seed(-1000001), 1);
        due(29, "then", x.seed(Integer.MIN_VALUE), -1000001);
        due(29, "then", x.seed(0), Integer.MIN_VALUE);
        due(29, "no finding", x.status(-1), 0);
    }

    // ---- 30 to 36

    private static void hold() {
        SandLorry x = withKinds();
        due(30, "hold(9, 3)", x.hold(9, 3), 1);
        due(30, "it holds it", x.as(9, 3), 3);
        due(30, "hold(9, -1)", x.hold(9, -1), 1);
        due(30, "nothing", x.as(9, 3), MISSING);
        due(30, "a slot with nothing", x.hold(0, 9), 1);
        due(30, "hold(-1, 0)", x.hold(-1, 0), BEYOND);
        due(30, "hold(10, 0)", x.hold(10, 0), BEYOND);
        due(30, "hold(0, 10)", x.hold(0, 10), BEYOND);
        due(30, "hold(0, -2)", x.hold(0, -2), BEYOND);
        due(30, "as it was", x.count(2), 1);
    }

    private static void as() {
        // For each KIND the KINDS as which it passes, by bits.
        int[] passes = {0x01, 0x03, 0x07, 0x09, 0x11, 0x27, 0x41, 0x81};
        SandLorry x = withKinds();
        for (int kind = 0; kind < 8; kind++) {
            x.hold(kind, kind);
            for (int wanted = 0; wanted < 8; wanted++) {
                int want = (passes[kind] >> wanted & 1) == 1 ? kind : KIND;
                due(31, "KIND " + kind + " as " + wanted, x.as(kind, wanted), want);
            }
        }
        due(31, "as(8, 0)", x.as(8, 0), MISSING);
        due(31, "BEYOND ahead of MISSING", x.as(8, 8), BEYOND);
        due(31, "as(0, -1)", x.as(0, -1), BEYOND);
        due(31, "as(10, 0)", x.as(10, 0), BEYOND);
        due(31, "as(-1, 0)", x.as(-1, 0), BEYOND);
        x.effort(5, -1);
        due(31, "its slot is empty", x.as(5, 5), MISSING);
        x.effort(5, 3);
        due(31, "another KIND in its slot", x.as(5, 3), 5);
        due(31, "no longer DRAWN", x.as(5, 5), KIND);
    }

    private static void sheet() {
        SandLorry x = new SandLorry();
        due(32, "no such sheet ahead of SIZE", x.sheet(4, 8, -1), BEYOND);
        due(32, "sheet(-1, ..)", x.sheet(-1, 8, 1), BEYOND);
        due(32, "other bits ahead of SIZE", x.sheet(0, 7, -1), BEYOND);
        due(32, "64 bits", x.sheet(0, 64, 1), BEYOND);
        due(32, "SIZE", x.sheet(0, 8, -1), SIZE);
        due(32, "SIZE with bits 0", x.sheet(0, 0, -1), SIZE);
        due(32, "above 40", x.sheet(0, 8, 41), BEYOND);
        due(32, "above 40 with bits 0", x.sheet(0, 0, 41), BEYOND);
        due(32, "MISSING still", x.judge(0), MISSING);
        due(32, "8 bits", x.sheet(0, 8, 0), 0);
        due(32, "not MISSING", x.judge(0), 0);
        due(32, "16 bits", x.sheet(1, 16, 5), 5);
        due(32, "32 bits", x.sheet(3, 32, 40), 40);
        x.write(3, 0, 33);
        due(32, "anew", x.sheet(3, 32, 2), 2);
        due(32, "two came", x.load(3, 0), 2);
        due(32, "all 0", x.yardOf(0, 0), 0);
        due(32, "bits 0", x.sheet(3, 0, 7), 0);
        due(32, "MISSING", x.judge(3), MISSING);
    }

    private static void write() {
        SandLorry x = new SandLorry();
        due(33, "no such sheet", x.write(4, 0, 0), BEYOND);
        due(33, "no such sheet", x.write(-1, 0, 0), BEYOND);
        due(33, "MISSING ahead of the number", x.write(0, 41, 0), MISSING);
        x.sheet(0, 8, 3);
        due(33, "no such number", x.write(0, 3, 0), BEYOND);
        due(33, "no such number", x.write(0, -1, 0), BEYOND);
        due(33, "MIN", x.write(0, Integer.MIN_VALUE, 0), BEYOND);
        due(33, "MAX", x.write(0, Integer.MAX_VALUE, 0), BEYOND);
        due(33, "the last", x.write(0, 2, 77), 1);
        x.load(0, 10);
        due(33, "FIRM", x.yardOf(12, 0), 77);
        due(33, "others", x.yardOf(11, 0), 0);
        int[] bits = {8, 16, 32};
        int[] minusOne = {255, 65535, -1};
        int[] forty = {256 + 40, 65536 + 40, 40};
        for (int i = 0; i < 3; i++) {
            SandLorry back = withKinds();
            back.set(0, 0);
            read(back, "backed");
            back.sheet(0, bits[i], 1);
            back.write(0, 0, minusOne[i]);
            due(33, "-1 of bits " + bits[i], back.judge(0), 0);
            SandLorry on = withKinds();
            on.set(0, 39);
            read(on, "effort");
            on.sheet(0, bits[i], 1);
            on.write(0, 0, forty[i]);
            due(33, "40 of bits " + bits[i], on.judge(0), 0);
        }
        x.sheet(1, 16, 1);
        x.write(1, 0, 255);
        due(33, "255 of 16 bits is no FIRM", x.load(1, 0), 0);
        x.sheet(1, 32, 1);
        x.write(1, 0, 65536);
        due(33, "65536 of 32 bits is no FIRM", x.load(1, 0), 0);
    }

    private static SandLorry withFive() {
        SandLorry x = new SandLorry();
        x.sheet(0, 8, 5);
        for (int i = 0; i < 5; i++) {
            x.write(0, i, i + 1);
        }
        return x;
    }

    private static void firmIs(SandLorry x, int promise, int... want) {
        for (int yard = 0; yard < want.length; yard++) {
            due(promise, "FIRM of " + yard, x.yardOf(yard, 0), want[yard]);
        }
    }

    private static void copy() {
        SandLorry x = withFive();
        due(34, "on", x.copy(0, 0, 0, 1, 4), 4);
        x.load(0, 0);
        firmIs(x, 34, 1, 1, 2, 3, 4, 50);
        x = withFive();
        due(34, "back", x.copy(0, 1, 0, 0, 4), 4);
        x.load(0, 0);
        firmIs(x, 34, 2, 3, 4, 5, 5, 50);
        x = withFive();
        x.sheet(1, 8, 3);
        due(34, "to another", x.copy(0, 3, 1, 1, 2), 2);
        x.load(1, 0);
        firmIs(x, 34, 0, 4, 5, 50);
        due(34, "none", x.copy(0, 5, 1, 3, 0), 0);
        due(34, "sheet 4", x.copy(4, 0, 0, 0, 1), BEYOND);
        due(34, "sheet -1", x.copy(0, 0, -1, 0, 1), BEYOND);
        due(34, "no such sheet ahead of MISSING", x.copy(2, 0, 4, 0, 1), BEYOND);
        due(34, "MISSING", x.copy(2, 0, 0, 0, -1), MISSING);
        due(34, "MISSING", x.copy(0, 0, 2, 0, -1), MISSING);
        x.sheet(3, 16, 3);
        due(34, "KIND ahead of the numbers", x.copy(0, 0, 3, 0, -1), KIND);
        due(34, "source too short", x.copy(0, 3, 1, 0, 3), BEYOND);
        due(34, "target too short", x.copy(0, 0, 1, 2, 2), BEYOND);
        due(34, "from below 0", x.copy(0, -1, 1, 0, 1), BEYOND);
        due(34, "to below 0", x.copy(0, 0, 1, -1, 1), BEYOND);
        due(34, "n below 0", x.copy(0, 0, 1, 0, -1), BEYOND);
        due(34, "from MAX", x.copy(0, Integer.MAX_VALUE, 1, 0, 1), BEYOND);
        due(34, "n MAX", x.copy(0, 1, 1, 1, Integer.MAX_VALUE), BEYOND);
        due(34, "n MIN", x.copy(0, 1, 1, 1, Integer.MIN_VALUE), BEYOND);
    }

    private static void load() {
        SandLorry x = withFive();
        due(35, "five", x.load(0, 3), 5);
        firmIs(x, 35, 50, 50, 50, 1, 2, 3, 4, 5, 50);
        due(35, "up to the last YARD", x.load(0, 38), 2);
        due(35, "FIRM of 39", x.yardOf(39, 0), 2);
        x.write(0, 2, 100);
        due(35, "up to one that is too much", x.load(0, 20), 2);
        due(35, "FIRM of 22", x.yardOf(22, 0), 50);
        x.write(0, 1, -1);
        due(35, "up to one below 0", x.load(0, 20), 1);
        x.write(0, 0, 99);
        due(35, "99 may be", x.load(0, 20), 1);
        due(35, "no such sheet ahead of all", x.load(4, 40), BEYOND);
        due(35, "load(-1, 0)", x.load(-1, 0), BEYOND);
        due(35, "MISSING ahead of the YARD", x.load(1, 40), MISSING);
        due(35, "load(0, 40)", x.load(0, 40), BEYOND);
        due(35, "load(0, -1)", x.load(0, -1), BEYOND);
        x.sheet(2, 8, 0);
        due(35, "an empty one", x.load(2, 0), 0);
    }

    private static void judge() {
        SandLorry x = new SandLorry();
        read(x, "effort;backed;effort 2");
        x.sheet(0, 8, 3);
        due(36, "the first isn't", x.judge(0), 1);
        x.write(0, 0, 23);
        due(36, "the second isn't", x.judge(0), 2);
        x.write(0, 1, 20);
        x.write(0, 2, 23);
        String was = stateOf(x);
        due(36, "all are", x.judge(0), 0);
        same(36, "nothing changes", stateOf(x), was);
        x.sheet(1, 32, 5);
        x.copy(0, 0, 1, 0, 3);
        x.write(1, 0, 23);
        x.write(1, 1, 20);
        x.write(1, 2, 23);
        x.write(1, 3, 26);
        x.write(1, 4, 26);
        due(36, "none is done for the fifth", x.judge(1), 5);
        x.set(0, 39);
        x.write(1, 0, 40);
        x.write(1, 1, 40);
        due(36, "OUT behind the first", x.judge(1), 2);
        x.clear();
        x.set(0, 20);
        x.sheet(3, 8, 1);
        x.write(3, 0, 23);
        due(36, "THE PLAN is empty", x.judge(3), 1);
        due(36, "no such sheet", x.judge(4), BEYOND);
        due(36, "no such sheet", x.judge(-1), BEYOND);
        due(36, "MISSING", x.judge(2), MISSING);
        x.sheet(2, 8, 0);
        due(36, "an empty one", x.judge(2), 0);
    }

    // ---- 37 to 41

    private static void image() {
        SandLorry x = withKinds();
        read(x, "dug 3");
        x.hold(0, 1);
        x.go(1);
        x.seed(9);
        String was = stateOf(x);
        due(37, "image()", x.image(), 1);
        x.sheet(0, 8, 4);
        read(x, "sand 0 1 2 3;sacks 1;air 1;boards 1;people 1;water 1;effort");
        x.set(0, 1);
        x.set(1, 1);
        x.seed(3);
        x.effort(0, -1);
        x.effort(1, 7);
        x.hold(0, -1);
        x.hold(1, 2);
        x.undo();
        same(37, "all is as it was", stateOf(x), was);
        due(37, "a slot", x.effortOf(0, 0), 0);
        due(37, "another slot", x.effortOf(1, 0), 1);
        due(37, "a SPOT", x.as(0, 1), 1);
        due(37, "KINDS", x.planOf(2), 1);
        due(37, "a sheet stays", x.load(0, 0), 4);
        feedAll(x, "dug");
        x.undo();
        due(37, "THE TAPE stays", x.count(3), 3);
    }

    private static void undo() {
        SandLorry x = withKinds();
        due(38, "NONE", x.undo(), NONE);
        x.go(1);
        x.image();
        x.go(1);
        due(38, "MINUTE", x.undo(), 30);
        x.go(1);
        due(38, "it stays", x.undo(), 30);
        x.go(3);
        x.image();
        due(38, "the latest", x.undo(), 70);
        x.go(20);
        x.undo();
        due(38, "status stays", x.status(-1), 2);
    }

    private static void tear() {
        SandLorry x = new SandLorry();
        due(39, "nothing was", x.tear(), 0);
        x.image();
        x.image();
        due(39, "something was", x.tear(), 1);
        due(39, "undo()", x.undo(), NONE);
        due(39, "nothing is", x.tear(), 0);
    }

    private static void count() {
        SandLorry x = new SandLorry();
        read(x, "dug 4");
        x.effort(2, 2);
        x.effort(9, 0);
        x.hold(1, 2);
        x.hold(2, 5);
        x.hold(3, 5);
        x.feed(0, 3);
        x.seed(-1000002);
        x.sand(0, 0);
        due(40, "KINDS", x.count(0), 4);
        due(40, "slots", x.count(1), 2);
        due(40, "SPOTS, of empty slots too", x.count(2), 3);
        due(40, "bytes", x.count(3), 3);
        due(40, "z", x.count(4), -1000002);
        due(40, "FIRM", x.count(5), 1950);
        due(40, "no finding", x.status(-1), 0);
        due(40, "count(6)", x.count(6), BEYOND);
        due(40, "count(-1)", x.count(-1), BEYOND);
    }

    private static void status() {
        SandLorry x = new SandLorry();
        for (int i = 0; i < 30; i++) {
            x.feed(0, 4);
        }
        x.feed(0, 1);
        x.sand(40, 0);
        x.effort(0, 1);
        x.hold(0, 0);
        x.as(0, 2);
        x.as(0, 3);
        x.go(1);
        x.go(2);
        x.go(3);
        x.set(6, 0);
        x.go(0);
        x.judge(0);
        x.judge(1);
        x.sheet(0, 8, -1);
        int[] want = {1, 1, 2, 3, 1, 2, 1};
        for (int which = 0; which < want.length; which++) {
            due(41, "status(" + which + ")", x.status(which), want[which]);
        }
        due(41, "all", x.status(-1), 11);
        due(41, "status(7)", x.status(7), BEYOND);
        due(41, "status(-2)", x.status(-2), BEYOND);
        due(41, "counted from then on", x.status(0), 3);
        due(41, "all of them", x.status(-1), 13);
    }
}
