import java.util.ArrayList;
import java.util.List;

/** Promises 30 to 41: each sentence that names a boundary, with a test of its own. What is refused: SandLorryRefusals. */
public final class SandLorrySheetEdges {
    public static void main(String[] args) {
        holdNothing();
        holdEmptySlot();
        holdAll();
        asUnder();
        asOfItsSlot();
        sheetOfSizes();
        sheetAllNought();
        sheetMissing();
        sheetOnItsOwn();
        writeLowestBits();
        writeSign();
        writeLast();
        copyAsTheyAllWere();
        copyNone();
        copyAll();
        copyBetween();
        copySign();
        loadAll();
        loadEndsAtFirm();
        loadEndsAtYards();
        loadEmpty();
        judgeAll();
        judgeFirst();
        judgeNoneIsDone();
        judgeEmpty();
        judgeOut();
        judgeForty();
        imageKeepsAll();
        imageNotTapeNorSheets();
        imageLatest();
        undoStays();
        undoMinute();
        tear();
        countPlan();
        countSlots();
        countSpots();
        countTape();
        countZ();
        countFirm();
        statusEver();
        statusOfEach();
        statusUndo();
        Edge.end();
    }

    // ---- 30, 31

    private static void holdNothing() {
        Edge.of(30, "or nothing (-1): 1.");
        SandLorry x = Edge.kinds();
        Edge.due("nothing, where nothing is", x.hold(9, -1), 1);
        Edge.due("SPOTS", x.count(2), 0);
        x.hold(9, 3);
        Edge.due("nothing, where something is", x.hold(9, -1), 1);
        Edge.due("MISSING", x.as(9, 0), Edge.MISSING);
        Edge.due("SPOTS", x.count(2), 0);
    }

    private static void holdEmptySlot() {
        Edge.of(30, "A SPOT holds an EFFORT: of a slot that holds nothing");
        SandLorry x = new SandLorry();
        Edge.due("hold(0, 9)", x.hold(0, 9), 1);
        Edge.due("MISSING", x.as(0, 0), Edge.MISSING);
        Edge.due("told to hold one", x.count(2), 1);
    }

    private static void holdAll() {
        Edge.of(30, "A SPOT holds an EFFORT");
        SandLorry x = new SandLorry();
        for (int i = 0; i < 10; i++) {
            x.effort(i, i % 8);
            Edge.due("hold(" + i + ", " + (9 - i) + ")", x.hold(i, 9 - i), 1);
        }
        for (int i = 0; i < 10; i++) {
            Edge.due("slot of " + i, x.as(i, 0), 9 - i);
        }
        x.hold(0, 0);
        x.hold(9, 0);
        Edge.due("two of one slot", x.as(0, 0) + x.as(9, 0), 0);
    }

    private static void asUnder() {
        Edge.of(31, "KIND: it isn't of that kind, nor of one under it.");
        // For each KIND those of which it is one, by bits.
        int[] of = {0x01, 0x03, 0x07, 0x09, 0x11, 0x27, 0x41, 0x81};
        SandLorry x = Edge.kinds();
        for (int kind = 0; kind < 8; kind++) {
            x.hold(9, kind);
            for (int wanted = 0; wanted < 8; wanted++) {
                boolean isOne = (of[kind] >> wanted & 1) == 1;
                Edge.due("KIND " + kind + " as " + wanted, x.as(9, wanted), isOne ? kind : Edge.KIND);
            }
        }
    }

    private static void asOfItsSlot() {
        Edge.of(31, "What a SPOT holds as one of a kind (0 to 7): the slot of the EFFORT.");
        SandLorry x = new SandLorry();
        x.effort(9, 5);
        x.hold(0, 9);
        Edge.due("DRAWN as DUG", x.as(0, 1), 9);
        x.effort(9, 1);
        Edge.due("no longer BOARDED", x.as(0, 2), Edge.KIND);
        x.effort(9, -1);
        Edge.due("nothing", x.as(0, 1), Edge.MISSING);
        x.effort(9, 7);
        Edge.due("the last KIND", x.as(0, 7), 9);
    }

    // ---- 32, 33

    private static void sheetOfSizes() {
        Edge.of(32, "A sheet has n numbers .. of 8, 16 or 32 bits");
        for (int bits : new int[] {8, 16, 32}) {
            for (int n : new int[] {0, 1, 39, 40}) {
                SandLorry x = new SandLorry();
                Edge.due("sheet(3, " + bits + ", " + n + ")", x.sheet(3, bits, n), n);
                Edge.due("the last", x.write(3, n - 1, 1), n > 0 ? 1 : Edge.BEYOND);
                Edge.due("behind it", x.write(3, n, 1), Edge.BEYOND);
                Edge.due("it loads", x.load(3, 0), n);
            }
        }
    }

    private static void sheetAllNought() {
        Edge.of(32, "all 0");
        SandLorry x = new SandLorry();
        x.sheet(0, 8, 40);
        for (int i = 0; i < 40; i++) {
            x.write(0, i, 99);
        }
        x.sheet(0, 8, 2);
        x.sheet(0, 16, 40);
        Edge.due("forty", x.load(0, 0), 40);
        Edge.due("the sum of FIRM", x.count(5), 0);
    }

    private static void sheetMissing() {
        Edge.of(32, "bits 0: it is MISSING: n (0 if it is MISSING)");
        for (int n : new int[] {0, 1, 40}) {
            SandLorry x = new SandLorry();
            x.sheet(1, 8, 5);
            Edge.due("sheet(1, 0, " + n + ")", x.sheet(1, 0, n), 0);
            Edge.due("MISSING", x.load(1, 0), Edge.MISSING);
            Edge.due("MISSING anew", x.sheet(1, 0, n), 0);
            Edge.due("and there again", x.sheet(1, 8, n), n);
            Edge.due("not MISSING", x.load(1, 0), n);
        }
    }

    private static void sheetOnItsOwn() {
        Edge.of(32, "SHEETS 0 to 3");
        SandLorry x = new SandLorry();
        for (int s = 0; s < 4; s++) {
            Edge.due("sheet " + s, x.sheet(s, 8, s + 1), s + 1);
            x.write(s, s, 10 + s);
        }
        for (int s = 0; s < 4; s++) {
            Edge.due("load of " + s, x.load(s, 0), s + 1);
            Edge.due("its last", x.yardOf(s, 0), 10 + s);
        }
        x.sheet(1, 0, 0);
        Edge.due("another is there", x.load(2, 0), 3);
    }

    private static void writeLowestBits() {
        Edge.of(33, "becomes v (its lowest bits)");
        int[] bits = {8, 16, 32};
        int[] above = {256, 65536, 0};
        for (int i = 0; i < 3; i++) {
            SandLorry x = new SandLorry();
            x.sheet(0, bits[i], 2);
            Edge.due("write", x.write(0, 0, above[i] + 99), 1);
            Edge.due("write", x.write(0, 1, 7 - above[i]), 1);
            Edge.due("both are FIRM", x.load(0, 0), 2);
            Edge.due("FIRM of 0", x.yardOf(0, 0), 99);
            Edge.due("FIRM of 1", x.yardOf(1, 0), 7);
        }
        SandLorry x = new SandLorry();
        x.sheet(0, 16, 1);
        x.write(0, 0, 256);
        Edge.due("256 of 16 bits is no 0", x.load(0, 0), 0);
        x.sheet(0, 32, 1);
        x.write(0, 0, 65536);
        Edge.due("65536 of 32 bits is no 0", x.load(0, 0), 0);
        x.write(0, 0, Integer.MIN_VALUE);
        Edge.due("nor is the least", x.load(0, 0), 0);
        x.sheet(0, 16, 1);
        x.write(0, 0, Integer.MIN_VALUE);
        Edge.due("of 16 bits it is", x.load(0, 0), 1);
    }

    /** What the only number of a sheet is, found by where THE LORRY would be: 40 or -1, else neither. */
    private static int yardTold(int bits, int v) {
        SandLorry on = Edge.on(39);
        Edge.read(on, "effort");
        on.sheet(0, bits, 1);
        on.write(0, 0, v);
        SandLorry back = Edge.on(0);
        Edge.read(back, "backed");
        back.sheet(0, bits, 1);
        back.write(0, 0, v);
        return on.judge(0) == 0 ? 40 : back.judge(0) == 0 ? -1 : -2;
    }

    private static void writeSign() {
        Edge.of(33, "told with their sign: of 8 bits 255 is -1");
        Edge.due("255 of 8", yardTold(8, 255), -1);
        Edge.due("-1 of 8", yardTold(8, -1), -1);
        Edge.due("296 of 8", yardTold(8, 296), 40);
        Edge.due("-216 of 8", yardTold(8, -216), 40);
        Edge.due("127 of 8", yardTold(8, 127), -2);
        Edge.due("255 of 16", yardTold(16, 255), -2);
        Edge.due("65535 of 16", yardTold(16, 65535), -1);
        Edge.due("65576 of 16", yardTold(16, 65576), 40);
        Edge.due("65535 of 32", yardTold(32, 65535), -2);
        Edge.due("-1 of 32", yardTold(32, -1), -1);
        Edge.due("40 of 32", yardTold(32, 40), 40);
    }

    private static void writeLast() {
        Edge.of(33, "Number i of a sheet becomes v: 1.");
        SandLorry x = new SandLorry();
        x.sheet(3, 32, 40);
        Edge.due("the first", x.write(3, 0, 11), 1);
        Edge.due("the last", x.write(3, 39, 22), 1);
        x.load(3, 0);
        Edge.due("FIRM of 0", x.yardOf(0, 0), 11);
        Edge.due("FIRM of 39", x.yardOf(39, 0), 22);
        Edge.due("those between", x.count(5), 33);
    }

    // ---- 34

    private static SandLorry five() {
        SandLorry x = new SandLorry();
        x.sheet(0, 8, 5);
        x.sheet(1, 8, 3);
        for (int i = 0; i < 5; i++) {
            x.write(0, i, 1 + i);
            x.write(1, i, 11 + i);
        }
        return x;
    }

    private static void numbersAre(SandLorry x, int s, int... want) {
        Edge.due("numbers of " + s, x.load(s, 0), want.length);
        for (int i = 0; i < want.length; i++) {
            Edge.due("number " + i, x.yardOf(i, 0), want[i]);
        }
    }

    private static void copyAsTheyAllWere() {
        Edge.of(34, "(as they all were): n");
        SandLorry x = five();
        Edge.due("one on", x.copy(0, 0, 0, 1, 4), 4);
        numbersAre(x, 0, 1, 1, 2, 3, 4);
        x = five();
        Edge.due("one back", x.copy(0, 1, 0, 0, 4), 4);
        numbersAre(x, 0, 2, 3, 4, 5, 5);
        x = five();
        Edge.due("onto itself", x.copy(0, 0, 0, 0, 5), 5);
        numbersAre(x, 0, 1, 2, 3, 4, 5);
        x = five();
        Edge.due("two on", x.copy(0, 0, 0, 2, 3), 3);
        numbersAre(x, 0, 1, 2, 1, 2, 3);
    }

    private static void copyNone() {
        Edge.of(34, "n numbers: none");
        int[][] none = {{0, 0, 1, 0, 0}, {0, 5, 1, 3, 0}, {1, 3, 0, 5, 0}, {0, 5, 0, 5, 0}};
        for (int[] args : none) {
            Edge.keeps(SandLorrySheetEdges::five, 0, "copy", args);
        }
        SandLorry x = new SandLorry();
        x.sheet(0, 8, 0);
        Edge.due("of an empty one", x.copy(0, 0, 0, 0, 0), 0);
        Edge.due("one of an empty one", x.copy(0, 0, 0, 0, 1), Edge.BEYOND);
    }

    private static void copyAll() {
        Edge.of(34, "n numbers: all forty");
        SandLorry x = new SandLorry();
        x.sheet(0, 32, 40);
        x.sheet(3, 32, 40);
        for (int i = 0; i < 40; i++) {
            x.write(0, i, i);
        }
        Edge.due("forty", x.copy(0, 0, 3, 0, 40), 40);
        x.load(3, 0);
        for (int yard = 0; yard < 40; yard++) {
            Edge.due("FIRM of " + yard, x.yardOf(yard, 0), yard);
        }
    }

    private static void copyBetween() {
        Edge.of(34, "of a sheet from one on come to another one from one on");
        SandLorry x = five();
        Edge.due("the last two", x.copy(0, 3, 1, 1, 2), 2);
        numbersAre(x, 1, 11, 4, 5);
        numbersAre(x, 0, 1, 2, 3, 4, 5);
        x = five();
        Edge.due("to the end", x.copy(1, 0, 0, 2, 3), 3);
        numbersAre(x, 0, 1, 2, 11, 12, 13);
    }

    private static void copySign() {
        Edge.of(34, "numbers with their sign, copied");
        SandLorry x = Edge.on(0);
        Edge.read(x, "backed");
        x.sheet(0, 8, 1);
        x.sheet(1, 8, 1);
        x.write(0, 0, 255);
        x.copy(0, 0, 1, 0, 1);
        Edge.due("-1", x.judge(1), 0);
    }

    // ---- 35

    private static void loadAll() {
        Edge.of(35, "from its begin on, become FIRM of YARDS from one on: how many came");
        SandLorry x = five();
        Edge.due("to 35", x.load(0, 35), 5);
        int[] want = {50, 1, 2, 3, 4, 5};
        for (int i = 0; i < want.length; i++) {
            Edge.due("FIRM of " + (34 + i), x.yardOf(34 + i, 0), want[i]);
        }
    }

    private static void loadEndsAtFirm() {
        Edge.of(35, "It ends at the first that isn't 0 to 99");
        int[] may = {0, 99};
        int[] mayNot = {-1, 100, 127, -128};
        for (int v : may) {
            SandLorry x = five();
            x.write(0, 2, v);
            Edge.due(v + " may be", x.load(0, 0), 5);
            Edge.due("FIRM", x.yardOf(2, 0), v);
        }
        for (int v : mayNot) {
            SandLorry x = five();
            x.write(0, 2, v);
            Edge.due(v + " may not be", x.load(0, 0), 2);
            int[] want = {1, 2, 50, 50, 50};
            for (int yard = 0; yard < 5; yard++) {
                Edge.due("FIRM of " + yard, x.yardOf(yard, 0), want[yard]);
            }
            x.write(0, 0, v);
            Edge.due("none comes", x.load(0, 0), 0);
        }
        Edge.due("no finding", five().status(-1), 2);
    }

    private static void loadEndsAtYards() {
        Edge.of(35, "or for which there is no YARD");
        int[] yards = {34, 35, 36, 38, 39};
        int[] came = {5, 5, 4, 2, 1};
        for (int i = 0; i < yards.length; i++) {
            SandLorry x = five();
            Edge.due("load(0, " + yards[i] + ")", x.load(0, yards[i]), came[i]);
            Edge.due("the last YARD", x.yardOf(39, 0), i == 0 ? 50 : came[i]);
            Edge.due("the first YARD", x.yardOf(0, 0), 50);
        }
        SandLorry x = five();
        x.write(0, 1, 100);
        Edge.due("too much where there is no YARD", x.load(0, 39), 1);
    }

    private static void loadEmpty() {
        Edge.of(35, "how many came: of an empty sheet");
        SandLorry x = new SandLorry();
        x.sheet(0, 8, 0);
        Edge.due("none", x.load(0, 0), 0);
        Edge.due("none", x.load(0, 39), 0);
        Edge.due("FIRM", x.count(5), 2000);
    }

    // ---- 36

    /** THE PLAN goes to 23, 20, 23, 26; the sheet says so for its first n numbers. */
    private static SandLorry judged(int n) {
        SandLorry x = Edge.kinds();
        Edge.read(x, "effort;backed;effort 2");
        x.sheet(0, 8, n);
        int[] yards = {23, 20, 23, 26};
        for (int i = 0; i < Math.min(4, n); i++) {
            x.write(0, i, yards[i]);
        }
        return x;
    }

    private static void judgeAll() {
        Edge.of(36, "0 if all are");
        for (int n = 0; n <= 4; n++) {
            int many = n;
            Edge.keeps(() -> judged(many), 0, "judge", 0);
        }
    }

    private static void judgeFirst() {
        Edge.of(36, "else 1 and the place of the first that isn't");
        for (int wrong = 0; wrong < 4; wrong++) {
            SandLorry x = judged(4);
            x.write(0, wrong, 39);
            Edge.due("number " + wrong, x.judge(0), 1 + wrong);
            x.write(0, 3, 39);
            Edge.due("the first of two", x.judge(0), 1 + wrong);
        }
    }

    private static void judgeNoneIsDone() {
        Edge.of(36, "(or for which none is done)");
        Edge.due("one more than THE PLAN has", judged(5).judge(0), 5);
        SandLorry still = Edge.kinds();
        Edge.read(still, "waited");
        still.sheet(0, 8, 2);
        still.write(0, 0, 20);
        still.write(0, 1, 20);
        Edge.due("where it stands, but none is done", still.judge(0), 2);
        still.set(6, 167);
        Edge.due("no WATER for the first", still.judge(0), 1);
        SandLorry x = Edge.kinds();
        x.sheet(0, 8, 1);
        x.write(0, 0, 20);
        Edge.due("THE PLAN is empty", x.judge(0), 1);
    }

    private static void judgeEmpty() {
        Edge.of(36, "0 if all are: none");
        SandLorry x = new SandLorry();
        x.sheet(0, 8, 0);
        Edge.due("without a PLAN", x.judge(0), 0);
        Edge.read(x, "dug");
        Edge.due("with one", x.judge(0), 0);
        SandLorry y = Edge.outOn();
        y.sheet(3, 32, 0);
        Edge.due("OUT", y.judge(3), 0);
    }

    private static void judgeOut() {
        Edge.of(36, "the YARDS where THE LORRY is, OUT too");
        SandLorry x = Edge.on(38);
        Edge.read(x, "effort 2");
        x.sheet(0, 8, 2);
        x.write(0, 0, 40);
        x.write(0, 1, 40);
        Edge.due("40, then none is done", x.judge(0), 2);
        x.sheet(0, 8, 1);
        x.write(0, 0, 40);
        Edge.due("40", x.judge(0), 0);
        x.write(0, 0, 41);
        Edge.due("no more than 40", x.judge(0), 1);
    }

    private static void judgeForty() {
        Edge.of(36, "numbers of a sheet: more than THE PLAN may have");
        SandLorry x = Edge.firm(0);
        Edge.read(x, "effort 9;effort 9;effort 2");
        x.sheet(0, 8, 40);
        for (int i = 0; i < 40; i++) {
            x.write(0, i, 20);
        }
        Edge.due("the 21st", x.judge(0), 21);
        x.sheet(1, 8, 20);
        x.copy(0, 0, 1, 0, 20);
        Edge.due("twenty", x.judge(1), 0);
    }

    // ---- 37 to 39

    private static List<Integer> keptOf(SandLorry x) {
        List<Integer> seen = new ArrayList<>();
        Edge.lookAtKept(x, seen);
        return seen;
    }

    private static void changeAll(SandLorry x) {
        Edge.read(x, "sand 0 1 2;sacks 1;air 1;boards 1;people 1;water 999;effort");
        x.go(1);
        x.go(6);
        x.set(0, 3);
        x.set(1, 77);
        x.wind(2);
        for (int i = 0; i < 10; i++) {
            x.effort(i, 7 - i % 8);
            x.hold(i, i);
        }
    }

    private static void imageKeepsAll() {
        Edge.of(37, "All but THE TAPE and SHEETS is kept: 1.");
        SandLorry x = Edge.busy();
        x.clear();
        x.wipe();
        Edge.read(x, "dug 3");
        Edge.due("image()", x.image(), 1);
        changeAll(x);
        x.undo();
        SandLorry untouched = Edge.busy();
        untouched.clear();
        untouched.wipe();
        Edge.read(untouched, "dug 3");
        Edge.must("all is as it was", keptOf(x).equals(keptOf(untouched)));
        SandLorry out = Edge.outOn();
        out.image();
        out.set(0, 5);
        out.undo();
        Edge.due("OUT again", out.now(0), 40);
    }

    private static void imageNotTapeNorSheets() {
        Edge.of(37, "All but THE TAPE and SHEETS");
        SandLorry x = new SandLorry();
        x.sheet(0, 8, 1);
        x.write(0, 0, 7);
        Edge.feed(x, "dug");
        x.image();
        x.write(0, 0, 9);
        x.sheet(1, 16, 2);
        Edge.feed(x, ";air 3");
        x.undo();
        Edge.due("bytes", x.count(3), 9);
        Edge.due("the text", x.text(), 1);
        Edge.due("a sheet that came", x.load(1, 10), 2);
        x.load(0, 0);
        Edge.due("a number", x.yardOf(0, 0), 9);
        x.image();
        x.sheet(0, 0, 0);
        x.undo();
        Edge.due("a sheet that went", x.load(0, 0), Edge.MISSING);
        Edge.feed(x, "dug");
        x.image();
        x.wipe();
        x.undo();
        Edge.due("bytes that went", x.count(3), 0);
    }

    private static void imageLatest() {
        Edge.of(38, "It becomes what was kept latest");
        SandLorry x = new SandLorry();
        for (int i = 1; i <= 3; i++) {
            x.set(6, i);
            Edge.due("image()", x.image(), 1);
        }
        x.set(6, 9);
        x.undo();
        Edge.due("WATER", x.now(6), 3);
        x.undo();
        Edge.due("no earlier one", x.now(6), 3);
    }

    private static void undoStays() {
        Edge.of(38, "(which stays)");
        SandLorry x = Edge.kinds();
        x.image();
        for (int i = 0; i < 3; i++) {
            changeAll(x);
            Edge.due("undo()", x.undo(), 0);
            Edge.due("FIRM", x.count(5), 2000);
            Edge.due("KINDS", x.count(0), 0);
            Edge.due("z", x.count(4), 1);
            Edge.due("a slot", x.effortOf(0, 0), 0);
            Edge.due("SPOTS", x.count(2), 0);
        }
        Edge.due("kept", x.tear(), 1);
    }

    private static void undoMinute() {
        Edge.of(38, "MINUTE. NONE: nothing is kept.");
        SandLorry x = Edge.at(1439);
        x.image();
        x.go(7);
        Edge.due("MINUTE", x.undo(), 1439);
        Edge.due("now(7)", x.now(7), 1439);
        SandLorry y = new SandLorry();
        y.image();
        Edge.due("0, no finding", y.undo(), 0);
        Edge.due("status(-1)", y.status(-1), 0);
        Edge.refused(Edge::kinds, Edge.NONE, "undo");
    }

    private static void tear() {
        Edge.of(39, "Nothing is kept: 1 if something was, else 0.");
        SandLorry x = new SandLorry();
        Edge.due("nothing was", x.tear(), 0);
        x.image();
        x.image();
        Edge.due("something was", x.tear(), 1);
        Edge.due("nothing any more", x.tear(), 0);
        Edge.due("undo()", x.undo(), Edge.NONE);
        x.set(6, 5);
        x.image();
        x.set(6, 6);
        Edge.due("kept anew", x.undo(), 0);
        Edge.due("WATER", x.now(6), 5);
        Edge.due("something was", x.tear(), 1);
        Edge.due("what is stays", x.now(6), 5);
    }

    // ---- 40

    private static void countPlan() {
        Edge.of(40, "0 KINDS of THE PLAN");
        SandLorry x = new SandLorry();
        Edge.due("none", x.count(0), 0);
        Edge.read(x, "dug 9;dug 9;dug 2");
        Edge.due("all", x.count(0), 20);
        x.follow();
        Edge.due("gone through", x.count(0), 20);
        x.clear();
        Edge.due("cleared", x.count(0), 0);
    }

    private static void countSlots() {
        Edge.of(40, "1 slots that hold an EFFORT");
        SandLorry x = new SandLorry();
        for (int slot = 0; slot < 10; slot++) {
            Edge.due("slots", x.count(1), slot);
            x.effort(slot, 0);
            x.effort(slot, 7);
        }
        Edge.due("all", x.count(1), 10);
        x.effort(0, -1);
        Edge.due("one less", x.count(1), 9);
    }

    private static void countSpots() {
        Edge.of(40, "2 SPOTS that are told to hold one");
        SandLorry x = new SandLorry();
        for (int spot = 0; spot < 10; spot++) {
            Edge.due("SPOTS", x.count(2), spot);
            x.hold(spot, 0);
        }
        Edge.due("all, of a slot that holds nothing", x.count(2), 10);
        x.hold(9, -1);
        Edge.due("one less", x.count(2), 9);
    }

    private static void countTape() {
        Edge.of(40, "3 bytes of THE TAPE");
        SandLorry x = new SandLorry();
        Edge.due("none", x.count(3), 0);
        for (int i = 0; i < 30; i++) {
            x.feed(0, 4);
        }
        Edge.due("all", x.count(3), 120);
        x.text();
        Edge.due("read", x.count(3), 0);
    }

    private static void countZ() {
        Edge.of(40, "4 z");
        SandLorry x = new SandLorry();
        Edge.due("at first", x.count(4), 1);
        x.odds(1);
        Edge.due("behind a draw", x.count(4), 1103527590);
        x.seed(Integer.MIN_VALUE);
        Edge.due("the least", x.count(4), Integer.MIN_VALUE);
        Edge.due("no finding", x.status(-1), 0);
    }

    private static void countFirm() {
        Edge.of(40, "5 the sum of FIRM of all YARDS");
        Edge.due("the least", Edge.firm(0).count(5), 0);
        Edge.due("the most", Edge.firm(99).count(5), 3960);
        SandLorry x = Edge.firm(0);
        x.sand(0, 1);
        x.sand(39, 2);
        Edge.due("both ends", x.count(5), 3);
    }

    // ---- 41

    private static void statusEver() {
        Edge.of(41, "which -1: all");
        SandLorry x = new SandLorry();
        Edge.due("none", x.status(-1), 0);
        for (int i = 1; i <= 100; i++) {
            x.now(14);
            x.undo();
            Edge.due("all", x.status(-1), 2 * i);
        }
        Edge.due("BEYOND", x.status(0), 100);
        Edge.due("NONE", x.status(3), 100);
    }

    private static void statusOfEach() {
        Edge.of(41, "0 to 6: BEYOND to SIZE");
        SandLorry x = Edge.outOn();
        for (int i = 0; i < 30; i++) {
            x.feed(0, 4);
        }
        x.hold(0, 0);
        int[] due = {1, 2, 3, 4, 5, 6, 7};
        for (int which = 0; which < 7; which++) {
            for (int i = 0; i < due[which]; i++) {
                tell(x, which);
            }
        }
        for (int which = 0; which < 7; which++) {
            Edge.due("status(" + which + ")", x.status(which), due[which]);
        }
        Edge.due("all", x.status(-1), 28);
    }

    private static void tell(SandLorry x, int which) {
        switch (which) {
            case 0: x.count(6); break;
            case 1: x.feed(0, 1); break;
            case 2: x.as(0, 1); break;
            case 3: x.undo(); break;
            case 4: x.go(0); break;
            case 5: x.judge(0); break;
            default: x.sheet(0, 0, -1);
        }
    }

    private static void statusUndo() {
        Edge.of(41, "(undo() takes none back)");
        SandLorry x = new SandLorry();
        x.now(14);
        x.image();
        x.now(14);
        x.go(0);
        x.undo();
        Edge.due("all", x.status(-1), 3);
        Edge.due("BEYOND", x.status(0), 2);
        Edge.due("NONE", x.status(3), 1);
        x.tear();
        x.undo();
        Edge.due("one more", x.status(-1), 4);
    }
}
