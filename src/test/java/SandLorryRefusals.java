import java.util.List;
import java.util.function.Supplier;

/**
 * Every call that may be refused: the last arguments that may be and the first that may not be, on both sides; which
 * finding comes first; and that nothing but status() has changed behind it.
 */
public final class SandLorryRefusals {
    private static final int MIN = Integer.MIN_VALUE;
    private static final int MAX = Integer.MAX_VALUE;
    private static final List<Supplier<SandLorry>> ALL =
        List.of(Edge::fresh, Edge::busy, Edge::outOn, Edge::outBack, Edge::busyOut);

    public static void main(String[] args) {
        bounds();
        boundsOfSet();
        boundsOfPlanOf();
        boundsOfSheets();
        boundsOfCopy();
        none();
        noneAhead();
        stateOfEfforts();
        full();
        kindAndMissing();
        sizeOfSheets();
        ordersOfEfforts();
        ordersOfPlans();
        ordersOfSheets();
        statusOfItsOwn();
        statusOfMany();
        Edge.end();
    }

    // ---- BEYOND

    private static void bounds() {
        bounds(2, "sand", 0, 39, 0, 99);
        bounds(3, "yardOf", 0, 39, 0, 1);
        bounds(5, "now", 0, 13);
        bounds(6, "soft", 0, 100, 0, 1);
        bounds(7, "wind", 1, 60);
        bounds(8, "effort", 0, 9, -1, 7);
        bounds(9, "effortOf", 0, 9, 0, 3);
        bounds(10, "go", 0, 9);
        bounds(11, "gives", 0, 9, 0, 3);
        bounds(12, "lasts", 0, 9);
        bounds(13, "out", 0, 9);
        bounds(14, "when", 0, 9);
        bounds(15, "feed", MIN, MAX, 1, 4);
        bounds(21, "plans", 0, 3);
        bounds(22, "best", 1, 3, 0, 2);
        bounds(23, "airFor", 0, 39);
        bounds(24, "sacksFor", 0, 39);
        bounds(26, "boardsFor", 1, 9);
        bounds(28, "odds", 1, 20);
        bounds(30, "hold", 0, 9, -1, 9);
        bounds(31, "as", 0, 9, 0, 7);
        bounds(36, "judge", 0, 3);
        bounds(40, "count", 0, 5);
        bounds(41, "status", -1, 6);
    }

    /** Each argument by itself, the others at either of their ends, then all of them at once. */
    private static void bounds(int promise, String name, int... ends) {
        Edge.of(promise, "BEYOND.");
        int params = ends.length / 2;
        for (int p = 0; p < params; p++) {
            for (int side = 0; side < 2; side++) {
                int[] args = sideOf(ends, side);
                args[p] = ends[2 * p];
                accepted(name, args);
                args[p] = ends[2 * p + 1];
                accepted(name, args);
                refusedBelowAndAbove(name, args, p, ends[2 * p], ends[2 * p + 1]);
            }
        }
        if (ends[0] > MIN) {
            int[] below = sideOf(ends, 0);
            int[] above = sideOf(ends, 1);
            for (int p = 0; p < params; p++) {
                below[p]--;
                above[p]++;
            }
            refusedByAll(name, below);
            refusedByAll(name, above);
        }
    }

    private static int[] sideOf(int[] ends, int side) {
        int[] args = new int[ends.length / 2];
        for (int p = 0; p < args.length; p++) {
            args[p] = ends[2 * p + side];
        }
        return args;
    }

    private static void refusedBelowAndAbove(String name, int[] args, int p, int least, int most) {
        if (least > MIN) {
            refusedWith(name, args, p, least - 1);
            refusedWith(name, args, p, MIN);
        }
        if (most < MAX) {
            refusedWith(name, args, p, most + 1);
            refusedWith(name, args, p, MAX);
        }
    }

    private static void refusedWith(String name, int[] args, int p, int v) {
        int[] changed = args.clone();
        changed[p] = v;
        refusedByAll(name, changed);
    }

    private static void refusedByAll(String name, int... args) {
        for (Supplier<SandLorry> maker : ALL) {
            Edge.refused(maker, Edge.BEYOND, name, args);
        }
    }

    private static void accepted(String name, int... args) {
        int answer = Edge.call(Edge.busy(), name, args);
        Edge.must(Edge.told(name, args) + " is not BEYOND", answer != Edge.BEYOND);
    }

    private static void boundsOfSet() {
        int[] least = {0, 0, 0, 0, 0, 1, 0};
        int[] most = {39, 99, 99, 9, 8, 8, 9999};
        String[] names = {"YARD (0 to 39)", "SUNK (0 to 99)", "SACKS (0 to 99)", "AIR (0 to 9)", "BOARDS (0 to 8)",
            "PEOPLE (1 to 8)", "WATER (0 to 9999)"};
        for (int what = 0; what <= 6; what++) {
            Edge.of(4, names[what]);
            for (int v : new int[] {least[what], most[what]}) {
                SandLorry x = Edge.busy();
                int was = x.now(what);
                Edge.due("set(" + what + ", " + v + ")", x.set(what, v), was);
                Edge.due("now(" + what + ")", x.now(what), v);
            }
            refusedBelowAndAbove("set", new int[] {what, 0}, 1, least[what], most[what]);
        }
        Edge.of(4, "BEYOND.");
        refusedBelowAndAbove("set", new int[] {0, 1}, 0, 0, 6);
        refusedByAll("set", 7, -1);
        refusedByAll("set", -1, 10000);
    }

    private static void boundsOfPlanOf() {
        Edge.of(18, "BEYOND.");
        int[] sizes = {0, 1, 9, 20};
        String[] texts = {"", "dug", "dug 9", "dug 9;dug 9;dug 2"};
        for (int i = 0; i < sizes.length; i++) {
            String text = texts[i];
            Supplier<SandLorry> maker = () -> planned(text);
            Edge.refused(maker, Edge.BEYOND, "planOf", -1);
            Edge.refused(maker, Edge.BEYOND, "planOf", sizes[i]);
            Edge.refused(maker, Edge.BEYOND, "planOf", MIN);
            Edge.refused(maker, Edge.BEYOND, "planOf", MAX);
            if (sizes[i] > 0) {
                Edge.keeps(maker, 1, "planOf", 0);
                Edge.keeps(maker, 1, "planOf", sizes[i] - 1);
            }
        }
    }

    private static SandLorry planned(String text) {
        SandLorry x = Edge.kinds();
        Edge.read(x, text);
        return x;
    }

    private static void boundsOfSheets() {
        Edge.of(32, "BEYOND: no such sheet, other bits.");
        for (int bits : new int[] {0, 8, 16, 32}) {
            refusedBelowAndAbove("sheet", new int[] {0, bits, 1}, 0, 0, 3);
            accepted("sheet", 0, bits, 0);
            accepted("sheet", 3, bits, 40);
        }
        for (int bits : new int[] {-8, -1, 1, 7, 9, 15, 17, 24, 31, 33, 64, MIN, MAX}) {
            refusedByAll("sheet", 0, bits, 1);
        }
        Edge.of(32, "BEYOND: n is above 40 (also with bits 0).");
        for (int bits : new int[] {0, 8, 16, 32}) {
            refusedByAll("sheet", 1, bits, 41);
            refusedByAll("sheet", 1, bits, MAX);
            SandLorry x = Edge.busy();
            Edge.due("40 of bits " + bits, x.sheet(1, bits, 40), bits == 0 ? 0 : 40);
        }
        Edge.of(33, "BEYOND: no such sheet.");
        refusedBelowAndAbove("write", new int[] {0, 0, 5}, 0, 0, 3);
        Edge.of(33, "BEYOND: no such number.");
        Edge.refused(Edge::busy, Edge.BEYOND, "write", 0, -1, 5);
        Edge.refused(Edge::busy, Edge.BEYOND, "write", 0, 2, 5);
        Edge.refused(Edge::busy, Edge.BEYOND, "write", 3, 5, 5);
        Edge.refused(Edge::busy, Edge.BEYOND, "write", 0, MIN, 5);
        Edge.refused(Edge::busy, Edge.BEYOND, "write", 0, MAX, 5);
        accepted("write", 0, 0, 5);
        accepted("write", 0, 1, 5);
        accepted("write", 3, 4, 5);
        Edge.of(35, "BEYOND: no such sheet.");
        refusedBelowAndAbove("load", new int[] {0, 0}, 0, 0, 3);
        Edge.of(35, "BEYOND: no such YARD.");
        for (int yard : new int[] {-1, 40, MIN, MAX}) {
            Edge.refused(Edge::busy, Edge.BEYOND, "load", 0, yard);
            Edge.refused(Edge::busy, Edge.BEYOND, "load", 3, yard);
        }
        accepted("load", 0, 0);
        accepted("load", 0, 39);
    }

    /** SHEETS 0 and 1 of five and three numbers of 8 bits, 2 of 16 bits, 3 MISSING. */
    private static SandLorry rows() {
        SandLorry x = Edge.kinds();
        x.sheet(0, 8, 5);
        x.sheet(1, 8, 3);
        x.sheet(2, 16, 5);
        for (int i = 0; i < 5; i++) {
            x.write(0, i, 1 + i);
            x.write(1, i, 11 + i);
            x.write(2, i, 21 + i);
        }
        return x;
    }

    private static void boundsOfCopy() {
        Edge.of(34, "BEYOND: no such sheet (either).");
        refusedBelowAndAbove("copy", new int[] {0, 0, 0, 0, 1}, 0, 0, 3);
        refusedBelowAndAbove("copy", new int[] {0, 0, 0, 0, 1}, 2, 0, 3);
        Edge.of(34, "BEYOND: one has not so many");
        int[][] last = {{0, 0, 0, 0, 5}, {0, 4, 0, 0, 1}, {0, 0, 0, 4, 1}, {0, 2, 1, 0, 3}, {1, 0, 0, 2, 3}, {0, 5, 1, 3, 0}};
        for (int[] args : last) {
            Edge.due(Edge.told("copy", args), Edge.call(rows(), "copy", args), args[4]);
        }
        int[][] first = {{0, 0, 0, 0, 6}, {0, 1, 0, 0, 5}, {0, 0, 0, 1, 5}, {0, 5, 0, 0, 1}, {0, 0, 0, 5, 1},
            {0, 0, 1, 0, 4}, {1, 0, 0, 0, 4}, {1, 1, 0, 0, 3}, {0, 0, 1, 1, 3}, {0, 6, 0, 0, 0}, {0, 0, 1, 4, 0}};
        for (int[] args : first) {
            Edge.refused(SandLorryRefusals::rows, Edge.BEYOND, "copy", args);
        }
        Edge.of(34, "or from, to or n is below 0");
        int[][] below = {{0, -1, 0, 0, 1}, {0, 0, 0, -1, 1}, {0, 0, 0, 0, -1}, {0, -1, 0, 0, 0}, {0, 0, 0, -1, 0},
            {0, MIN, 0, 0, 1}, {0, 0, 0, MIN, 1}, {0, 0, 0, 0, MIN}, {0, 3, 0, 3, -2}, {0, MAX, 0, 0, -MAX}};
        for (int[] args : below) {
            Edge.refused(SandLorryRefusals::rows, Edge.BEYOND, "copy", args);
        }
        Edge.of(34, "sums that wrap around");
        int[][] wraps = {{0, MAX, 0, 0, 1}, {0, 0, 0, MAX, 1}, {0, 1, 0, 1, MAX}, {0, MAX, 0, MAX, MAX},
            {0, MAX, 0, 0, 5}, {0, MAX - 3, 0, 0, 5}, {0, 0, 0, 0, MAX}, {0, MIN, 0, MIN, MIN}, {0, MAX, 0, 0, MIN}};
        for (int[] args : wraps) {
            Edge.refused(SandLorryRefusals::rows, Edge.BEYOND, "copy", args);
        }
    }

    // ---- the other findings

    private static void none() {
        int[] promises = {9, 10, 11, 12, 13, 14};
        String[] names = {"effortOf", "go", "gives", "lasts", "out", "when"};
        for (int i = 0; i < names.length; i++) {
            Edge.of(promises[i], "NONE: it is nothing");
            for (Supplier<SandLorry> maker : ALL) {
                boolean withWhat = names[i].equals("effortOf") || names[i].equals("gives");
                for (int what = 0; what <= (withWhat ? 3 : 0); what++) {
                    Edge.refused(maker, Edge.NONE, names[i], withWhat ? new int[] {9, what} : new int[] {9});
                }
            }
        }
        Edge.of(38, "NONE: nothing is kept.");
        Edge.refused(Edge::fresh, Edge.NONE, "undo");
        Edge.refused(Edge::outOn, Edge.NONE, "undo");
        Edge.refused(() -> torn(), Edge.NONE, "undo");
    }

    private static SandLorry torn() {
        SandLorry x = Edge.busy();
        x.tear();
        return x;
    }

    private static void noneAhead() {
        Edge.of(13, "NONE: .. or it never is.");
        Edge.refused(Edge::kinds, Edge.NONE, "out", 7);
        Edge.refused(() -> Edge.firm(0), Edge.NONE, "out", 0);
        Edge.refused(() -> Edge.firm(0), Edge.NONE, "out", 6);
        Edge.of(14, "NONE: .. or can't be done in any.");
        Edge.refused(Edge::outOn, Edge.NONE, "when", 0);
        Edge.refused(Edge::outBack, Edge.NONE, "when", 7);
        Edge.refused(() -> dry(7), Edge.NONE, "when", 1);
        Edge.of(22, "NONE.");
        for (int n = 1; n <= 3; n++) {
            for (int what = 0; what <= 2; what++) {
                Edge.refused(Edge::outOn, Edge.NONE, "best", n, what);
                Edge.refused(Edge::busyOut, Edge.NONE, "best", n, what);
            }
        }
        Edge.of(23, "NONE.");
        Edge.refused(() -> Edge.firm(2), Edge.NONE, "airFor", 0);
        Edge.refused(() -> Edge.firm(2), Edge.NONE, "airFor", 39);
        Edge.of(24, "NONE.");
        Edge.refused(() -> Edge.firm(19), Edge.NONE, "sacksFor", 0);
        Edge.refused(() -> Edge.firm(19), Edge.NONE, "sacksFor", 39);
        Edge.of(25, "NONE: with none (also, if THE LORRY is OUT ahead of that).");
        Edge.refused(Edge::busyOut, Edge.NONE, "waterFor");
        Edge.refused(() -> planned("effort 8"), Edge.NONE, "waterFor");
        Edge.of(26, "NONE.");
        Edge.refused(() -> Edge.firm(10), Edge.NONE, "boardsFor", 9);
        Edge.refused(() -> dry(35), Edge.NONE, "boardsFor", 1);
        Edge.refused(Edge::outOn, Edge.NONE, "boardsFor", 1);
    }

    /** As kinds(), with so much WATER. */
    private static SandLorry dry(int water) {
        SandLorry x = Edge.kinds();
        x.set(6, water);
        return x;
    }

    private static void stateOfEfforts() {
        // What each KIND drinks at first; a litre less and it can't be done.
        int[] drinks = {0, 24, 36, 24, 2, 105, 0, 168};
        for (int kind = 0; kind < 8; kind++) {
            int k = kind;
            Edge.of(10, "STATE: it can't be done. KIND " + kind);
            Edge.refused(Edge::outOn, Edge.STATE, "go", kind);
            Edge.refused(Edge::outBack, Edge.STATE, "go", kind);
            if (drinks[kind] > 0) {
                Edge.refused(() -> dry(drinks[k] - 1), Edge.STATE, "go", kind);
            }
            Edge.due("just WATER enough", dry(drinks[kind]).go(kind) == Edge.STATE ? 1 : 0, 0);
            Edge.of(11, "STATE. KIND " + kind);
            for (int what = 0; what <= 3; what++) {
                Edge.refused(Edge::outOn, Edge.STATE, "gives", kind, what);
                Edge.refused(Edge::outBack, Edge.STATE, "gives", kind, what);
                if (drinks[kind] > 0) {
                    Edge.refused(() -> dry(drinks[k] - 1), Edge.STATE, "gives", kind, what);
                }
                Edge.must("just WATER enough", dry(drinks[kind]).gives(kind, what) > Edge.BEYOND);
            }
        }
        Edge.of(28, "STATE: it is OUT.");
        for (int n : new int[] {1, 20}) {
            Edge.refused(Edge::outOn, Edge.STATE, "odds", n);
            Edge.refused(Edge::outBack, Edge.STATE, "odds", n);
            Edge.refused(Edge::busyOut, Edge.STATE, "odds", n);
        }
    }

    /** So many bytes on THE TAPE, a text at their begin. */
    private static SandLorry taped(int bytes) {
        SandLorry x = Edge.kinds();
        StringBuilder text = new StringBuilder("sacks 7;dug 2");
        while (text.length() < bytes) {
            text.append(' ');
        }
        text.setLength(bytes);
        Edge.feed(x, text.toString());
        return x;
    }

    private static void full() {
        Edge.of(15, "FULL.");
        for (int n = 1; n <= 4; n++) {
            int rest = 120 - n;
            Edge.due(n + " more behind " + rest, taped(rest).feed(0, n), 120);
            Edge.refused(() -> taped(rest + 1), Edge.FULL, "feed", 0x20202020, n);
            Edge.refused(() -> taped(120), Edge.FULL, "feed", 0x20202020, n);
        }
    }

    private static SandLorry holding() {
        SandLorry x = Edge.kinds();
        for (int spot = 0; spot < 8; spot++) {
            x.hold(spot, spot);
        }
        x.hold(8, 9);
        return x;
    }

    private static void kindAndMissing() {
        Edge.of(31, "KIND: it isn't of that kind, nor of one under it.");
        for (int kind = 1; kind < 8; kind++) {
            Edge.refused(SandLorryRefusals::holding, Edge.KIND, "as", 0, kind);
            Edge.keeps(SandLorryRefusals::holding, kind, "as", kind, 0);
            Edge.keeps(SandLorryRefusals::holding, kind, "as", kind, kind);
        }
        Edge.of(31, "MISSING: it holds nothing.");
        for (int kind = 0; kind < 8; kind++) {
            Edge.refused(SandLorryRefusals::holding, Edge.MISSING, "as", 9, kind);
            Edge.refused(SandLorryRefusals::holding, Edge.MISSING, "as", 8, kind);
        }
        Edge.of(33, "MISSING.");
        Edge.refused(Edge::busy, Edge.MISSING, "write", 2, 0, 5);
        Edge.of(34, "MISSING: one is.");
        Edge.refused(Edge::busy, Edge.MISSING, "copy", 2, 0, 0, 0, 1);
        Edge.refused(Edge::busy, Edge.MISSING, "copy", 0, 0, 2, 0, 1);
        Edge.refused(Edge::busy, Edge.MISSING, "copy", 2, 0, 2, 0, 0);
        Edge.of(34, "KIND: they are not of as many bits.");
        Edge.refused(SandLorryRefusals::rows, Edge.KIND, "copy", 0, 0, 2, 0, 1);
        Edge.refused(SandLorryRefusals::rows, Edge.KIND, "copy", 2, 0, 0, 0, 1);
        Edge.refused(Edge::busy, Edge.KIND, "copy", 1, 0, 3, 0, 0);
        Edge.of(35, "MISSING.");
        Edge.refused(Edge::busy, Edge.MISSING, "load", 2, 0);
        Edge.of(36, "MISSING.");
        Edge.refused(Edge::busy, Edge.MISSING, "judge", 2);
        Edge.refused(Edge::busyOut, Edge.MISSING, "judge", 2);
    }

    private static void sizeOfSheets() {
        Edge.of(32, "SIZE: n is below 0 (also with bits 0).");
        for (int bits : new int[] {0, 8, 16, 32}) {
            for (int s = 0; s < 4; s++) {
                Edge.refused(Edge::busy, Edge.SIZE, "sheet", s, bits, -1);
                Edge.refused(Edge::fresh, Edge.SIZE, "sheet", s, bits, MIN);
            }
            Edge.due("n 0 of bits " + bits, Edge.busy().sheet(0, bits, 0), 0);
        }
    }

    // ---- which comes first

    private static void ordersOfEfforts() {
        Edge.of(0, "Each act tells its findings in the order in which they are asked: BEYOND ahead of NONE");
        Edge.refused(Edge::busyOut, Edge.BEYOND, "effortOf", 9, 4);
        Edge.refused(Edge::busyOut, Edge.BEYOND, "effortOf", 9, -1);
        Edge.refused(Edge::busyOut, Edge.BEYOND, "gives", 9, 4);
        Edge.refused(Edge::busyOut, Edge.BEYOND, "gives", 9, -1);
        Edge.of(0, "Each act tells its findings in the order in which they are asked: BEYOND ahead of STATE");
        Edge.refused(Edge::busyOut, Edge.BEYOND, "gives", 0, 4);
        Edge.refused(() -> dry(0), Edge.BEYOND, "gives", 1, 4);
        Edge.refused(Edge::busyOut, Edge.BEYOND, "go", 10);
        Edge.refused(Edge::outOn, Edge.BEYOND, "odds", 0);
        Edge.refused(Edge::outOn, Edge.BEYOND, "odds", 21);
        Edge.of(0, "Each act tells its findings in the order in which they are asked: NONE ahead of STATE");
        Edge.refused(Edge::outOn, Edge.NONE, "go", 9);
        Edge.refused(() -> dry(0), Edge.NONE, "go", 9);
        Edge.refused(Edge::outOn, Edge.NONE, "gives", 9, 0);
        Edge.refused(() -> dry(0), Edge.NONE, "gives", 9, 3);
        Edge.of(13, "NONE: the slot holds nothing; also where it is OUT now");
        Edge.refused(Edge::outOn, Edge.NONE, "out", 9);
        Edge.refused(Edge::outBack, Edge.NONE, "out", 8);
    }

    private static void ordersOfPlans() {
        Edge.of(15, "BEYOND: n. FULL.");
        for (int n : new int[] {0, 5, MIN, MAX}) {
            Edge.refused(() -> taped(120), Edge.BEYOND, "feed", 0, n);
        }
        Edge.of(22, "BEYOND. NONE.");
        Edge.refused(Edge::outOn, Edge.BEYOND, "best", 0, 0);
        Edge.refused(Edge::outOn, Edge.BEYOND, "best", 4, 0);
        Edge.refused(Edge::outOn, Edge.BEYOND, "best", 1, 3);
        Edge.of(23, "BEYOND. NONE.");
        Edge.refused(() -> Edge.firm(0), Edge.BEYOND, "airFor", 40);
        Edge.of(24, "BEYOND. NONE.");
        Edge.refused(() -> Edge.firm(0), Edge.BEYOND, "sacksFor", -1);
        Edge.of(26, "BEYOND. NONE.");
        Edge.refused(Edge::outOn, Edge.BEYOND, "boardsFor", 10);
    }

    private static void ordersOfSheets() {
        Edge.of(31, "BEYOND. MISSING: it holds nothing. KIND");
        Edge.refused(SandLorryRefusals::holding, Edge.BEYOND, "as", 9, 8);
        Edge.refused(SandLorryRefusals::holding, Edge.BEYOND, "as", 0, 8);
        Edge.refused(SandLorryRefusals::holding, Edge.BEYOND, "as", 9, -1);
        Edge.of(32, "BEYOND: no such sheet, other bits. SIZE: n is below 0");
        Edge.refused(Edge::busy, Edge.BEYOND, "sheet", 4, 8, -1);
        Edge.refused(Edge::busy, Edge.BEYOND, "sheet", -1, 0, -1);
        Edge.refused(Edge::busy, Edge.BEYOND, "sheet", 0, 7, -1);
        Edge.of(33, "BEYOND: no such sheet. MISSING. BEYOND: no such number.");
        Edge.refused(Edge::busy, Edge.MISSING, "write", 2, -1, 0);
        Edge.refused(Edge::busy, Edge.MISSING, "write", 2, 40, 0);
        Edge.refused(Edge::fresh, Edge.BEYOND, "write", 4, 0, 0);
        Edge.of(34, "BEYOND: no such sheet (either). MISSING: one is.");
        Edge.refused(Edge::busy, Edge.BEYOND, "copy", 2, 0, 4, 0, 1);
        Edge.refused(Edge::busy, Edge.BEYOND, "copy", -1, 0, 2, 0, 1);
        Edge.of(34, "MISSING: one is. KIND: they are not of as many bits. BEYOND");
        Edge.refused(Edge::busy, Edge.MISSING, "copy", 2, -1, 0, 0, 1);
        Edge.refused(Edge::busy, Edge.MISSING, "copy", 0, 0, 2, 99, 1);
        Edge.refused(Edge::busy, Edge.KIND, "copy", 0, -1, 1, 0, 1);
        Edge.refused(Edge::busy, Edge.KIND, "copy", 0, 0, 1, 0, 99);
        Edge.refused(Edge::busy, Edge.KIND, "copy", 0, 0, 3, -1, -1);
        Edge.of(35, "BEYOND: no such sheet. MISSING. BEYOND: no such YARD.");
        Edge.refused(Edge::busy, Edge.MISSING, "load", 2, 40);
        Edge.refused(Edge::busy, Edge.MISSING, "load", 2, -1);
        Edge.refused(Edge::fresh, Edge.BEYOND, "load", 4, 0);
        Edge.of(36, "BEYOND: no such sheet. MISSING.");
        Edge.refused(Edge::fresh, Edge.BEYOND, "judge", 4);
        Edge.refused(Edge::fresh, Edge.BEYOND, "judge", -1);
    }

    // ---- 41

    private static void statusOfItsOwn() {
        Edge.of(41, "BEYOND (counted from then on): another one.");
        SandLorry x = new SandLorry();
        Edge.due("none", x.status(-1), 0);
        Edge.due("status(7)", x.status(7), Edge.BEYOND);
        Edge.due("all", x.status(-1), 1);
        Edge.due("status(-2)", x.status(-2), Edge.BEYOND);
        Edge.due("BEYOND", x.status(0), 2);
        for (int which = 1; which <= 6; which++) {
            Edge.due("status(" + which + ")", x.status(which), 0);
        }
    }

    private static void statusOfMany() {
        Edge.of(0, "An object is used for at most 512 calls after it has been made");
        SandLorry x = new SandLorry();
        for (int i = 0; i < 511; i++) {
            Edge.due("call " + (i + 1), x.now(14), Edge.BEYOND);
        }
        Edge.due("the 512th", x.status(-1), 511);
    }
}
