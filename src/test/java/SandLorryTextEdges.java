import java.util.List;

/** THE TAPE, TEXTS, THE PLAN, promises 15 to 21: each sentence that names a boundary, with a test of its own. */
public final class SandLorryTextEdges {
    private static final String[] KIND_WORDS =
        {"effort", "dug", "boarded", "lightened", "letdown", "drawn", "backed", "waited"};
    private static final String[] NUMBER_WORDS = {"sacks", "air", "boards", "people", "water"};
    private static final int[] LEAST = {0, 0, 0, 1, 0};
    private static final int[] MOST = {99, 9, 8, 8, 9999};

    public static void main(String[] args) {
        feedBytes();
        feedHighestFirst();
        feedCounts();
        feedHundredTwenty();
        wipe();
        wordsAsLongAsCanBe();
        lettersAtoZ();
        digits();
        signs();
        numbersAtMost();
        numbersWrap();
        blanks();
        noOtherBlanks();
        items();
        sandYard();
        sandFirm();
        sandAtLeastOne();
        sandForty();
        sandAbove();
        numberAsItMayBe();
        oneNumberOnly();
        kindWords();
        times();
        planOfTwentyByWord();
        planOfTwentyByNumber();
        planOfTwentyWhenFull();
        faultFirst();
        faultAtTheEnd();
        faultOfOtherBytes();
        faultOfOtherWords();
        everyLetterCounts();
        faultChangesNothing();
        emptyBehindText();
        itemByItem();
        fullTape();
        planIsAddedTo();
        clear();
        follow();
        followTwenty();
        plans();
        plansOut();
        Edge.end();
    }

    /** The FAULT of a text, or -1 if it is none; a lorry of its own each time. */
    private static int faultOf(String text) {
        int answer = Edge.read(new SandLorry(), text);
        return answer < 0 ? -1 - answer : -1;
    }

    private static void fault(String text, int place) {
        Edge.due("FAULT of '" + text + "'", faultOf(text), place);
    }

    private static void fine(String text) {
        Edge.due("FAULT of '" + text + "'", faultOf(text), -1);
    }

    // ---- 15, 16

    private static void feedBytes() {
        Edge.of(15, "THE TAPE gets the n lowest bytes of a number behind it");
        String[] words = {"g", "ug", "dug", ";dug"};
        int[] faults = {0, 0, -1, 0};
        for (int n = 1; n <= 4; n++) {
            SandLorry x = new SandLorry();
            int bytes = ';' << 24 | 'd' << 16 | 'u' << 8 | 'g';
            Edge.due("feed(.., " + n + ")", x.feed(bytes, n), n);
            Edge.due("'" + words[n - 1] + "'", x.text(), faults[n - 1] < 0 ? 1 : -1 - faults[n - 1]);
        }
        SandLorry x = new SandLorry();
        Edge.due("a number below 0", x.feed(0xffffff00 | ' ', 1), 1);
        x.feed(0x80000000 | 'd' << 16 | 'u' << 8 | 'g', 3);
        Edge.due("its sign is none of them", x.text(), 1);
        x.feed(-1, 4);
        Edge.due("four bytes of 255", x.text(), -1);
    }

    private static void feedHighestFirst() {
        Edge.of(15, "the highest of these first (n 1 to 4)");
        SandLorry x = new SandLorry();
        x.feed('w' << 24 | 'a' << 16 | 't' << 8 | 'e', 4);
        x.feed('r' << 8 | '1', 2);
        x.feed('2' << 16 | '3' << 8 | '4', 3);
        Edge.due("text()", x.text(), 0);
        Edge.due("WATER", x.now(6), 1234);
    }

    private static void feedCounts() {
        Edge.of(15, "how many it has");
        SandLorry x = new SandLorry();
        int has = 0;
        for (int n = 1; n <= 4; n++) {
            has += n;
            Edge.due("feed(.., " + n + ")", x.feed(0, n), has);
            Edge.due("count(3)", x.count(3), has);
        }
    }

    private static void feedHundredTwenty() {
        Edge.of(15, "FULL. (bytes, at most 120)");
        for (int n = 1; n <= 4; n++) {
            SandLorry x = new SandLorry();
            int has = 0;
            while (has + n <= 120) {
                has += n;
                Edge.due("feed(.., " + n + ")", x.feed(0, n), has);
            }
            Edge.due("one more", x.feed(0, n), Edge.FULL);
            Edge.due("as many as before", x.count(3), has);
        }
        SandLorry x = new SandLorry();
        for (int i = 0; i < 59; i++) {
            x.feed(0, 2);
        }
        Edge.due("3 behind 118", x.feed(0, 3), Edge.FULL);
        Edge.due("1 behind 118", x.feed(0, 1), 119);
        Edge.due("2 behind 119", x.feed(0, 2), Edge.FULL);
        Edge.due("1 behind 119", x.feed(0, 1), 120);
        Edge.due("1 behind 120", x.feed(0, 1), Edge.FULL);
        Edge.due("status(1)", x.status(1), 3);
    }

    private static void wipe() {
        Edge.of(16, "THE TAPE is empty: how many it had.");
        SandLorry x = new SandLorry();
        Edge.due("none", x.wipe(), 0);
        for (int i = 0; i < 30; i++) {
            x.feed(0, 4);
        }
        Edge.due("all", x.wipe(), 120);
        Edge.due("none any more", x.wipe(), 0);
        Edge.due("nothing of it is left", Edge.read(x, "dug"), 1);
    }

    // ---- tokens

    private static void wordsAsLongAsCanBe() {
        Edge.of(0, "TOKENS, each as long as can be: WORDS (letters a to z)");
        fault("dugdug", 0);
        fault("dugs", 0);
        fault("du g", 0);
        fault("sandsacks 5", 0);
        fault("airair 5", 0);
        fine("dug1");
        fine("air9;dug");
        fine("dug;dug");
    }

    private static void lettersAtoZ() {
        Edge.of(0, "WORDS (letters a to z)");
        fault("aa", 0);
        fault("zz", 0);
        fault("dug" + (char) ('a' - 1), 3);
        fault("dug" + (char) ('z' + 1), 3);
        fault("dugA", 3);
        fault("DUG", 0);
        fault("dug a", 4);
        fault("dug z", 4);
    }

    private static void digits() {
        Edge.of(0, "NUMBERS (all digits");
        fault("dug " + (char) ('0' - 1), 4);
        fault("dug " + (char) ('9' + 1), 4);
        fine("air 0");
        fine("air 9");
        fault("water 1" + (char) ('0' - 1), 7);
        fault("water 1" + (char) ('9' + 1), 7);
        fault("water -1", 6);
        fault("water +1", 6);
        fault("water 1.5", 7);
    }

    private static void signs() {
        Edge.of(0, "SIGN ;");
        fine("dug;dug");
        fault("dug;;dug", 4);
        fault("dug,dug", 3);
        fault("dug" + (char) (';' - 1) + "dug", 3);
        fault("dug" + (char) (';' + 1) + "dug", 3);
        fault(";dug", 0);
    }

    private static void numbersAtMost() {
        Edge.of(0, "9999 at most");
        fine("water 9999");
        fine("water 0000009999");
        fault("water 10000", 6);
        fault("water 00010000", 6);
        SandLorry x = new SandLorry();
        Edge.read(x, "water 0000009999");
        Edge.due("WATER", x.now(6), 9999);
        Edge.read(x, "water 00000000000000000000000000000000000000000000000000000000000000000000000000");
        Edge.due("WATER", x.now(6), 0);
    }

    private static void numbersWrap() {
        Edge.of(0, "a NUMBER that isn't as told: one that would wrap around");
        fault("water 2147483648", 6);
        fault("water 4294967296", 6);
        fault("water 4294967301", 6);
        fault("dug 4294967297", 4);
        fault("sand 4294967296 5", 5);
        fault("sand 0 4294967296", 7);
        fault("water 18446744073709551616", 6);
        fault("water 18446744073709551621", 6);
        fault("people 340282366920938463463374607431768211457", 7);
    }

    private static void blanks() {
        Edge.of(0, "blanks may stand between");
        fine(" dug");
        fine("dug ");
        fine("   dug   2   ;   air   3   ");
        fine("dug2;air3;sand0 1 2");
        SandLorry x = new SandLorry();
        Edge.read(x, "sand 0 1 2");
        Edge.due("FIRM of 0", x.yardOf(0, 0), 1);
        Edge.due("FIRM of 1", x.yardOf(1, 0), 2);
        fault("sand 0", 6);
        fault("sand 0 ", 7);
        fault("sand01 ", 7);
        fine("sand01 2");
    }

    private static void noOtherBlanks() {
        Edge.of(0, "a byte that begins no TOKEN: another than a blank");
        for (int b : new int[] {0, 9, 10, 11, 12, 13, 31, 33, 127, 128, 160, 255}) {
            fault("dug" + (char) b, 3);
            fault((char) b + "dug", 0);
        }
    }

    // ---- items

    private static void items() {
        Edge.of(0, "TEXT: ITEM { ; ITEM }.");
        fault("", 0);
        fault(" ", 1);
        fine("dug");
        fine("dug;air 3");
        fault("dug air 3", 4);
        fault("air 3 dug", 6);
        fault("dug;", 4);
        fault("dug;air 3;", 10);
        fault("3", 0);
        fault("dug;3", 4);
    }

    private static void sandYard() {
        Edge.of(0, "sand, a NUMBER (0 to 39)");
        fine("sand 0 5");
        fine("sand 39 5");
        fault("sand 40 5", 5);
        fault("sand 9999 5", 5);
        fault("sand dug", 5);
        fault("sand ;", 5);
        fault("sand", 4);
        fault("sand  ", 6);
    }

    private static void sandFirm() {
        Edge.of(0, "NUMBERS (0 to 99): FIRM of YARDS from that one on");
        fine("sand 5 0 99");
        fault("sand 5 100", 7);
        fault("sand 5 99 100", 10);
        fault("sand 5 99 100 5", 10);
        SandLorry x = new SandLorry();
        Edge.read(x, "sand 38 0 99");
        Edge.due("FIRM of 37", x.yardOf(37, 0), 50);
        Edge.due("FIRM of 38", x.yardOf(38, 0), 0);
        Edge.due("FIRM of 39", x.yardOf(39, 0), 99);
    }

    private static void sandAtLeastOne() {
        Edge.of(0, "and 1 to 40 NUMBERS: one at least");
        fault("sand 5", 6);
        fault("sand 5;dug", 6);
        fault("sand 5 dug", 7);
        fault("sand 5 ;", 7);
        fine("sand 5 5");
    }

    /** sand, a YARD, and so many NUMBERS of a digit. */
    private static String sand(int yard, int numbers) {
        StringBuilder text = new StringBuilder("sand ").append(yard);
        for (int i = 0; i < numbers; i++) {
            text.append(' ').append(i % 10);
        }
        return text.toString();
    }

    private static void sandForty() {
        Edge.of(0, "and 1 to 40 NUMBERS: forty at most");
        SandLorry x = new SandLorry();
        Edge.due("forty", Edge.read(x, sand(0, 40)), 0);
        for (int yard = 0; yard < 40; yard++) {
            Edge.due("FIRM of " + yard, x.yardOf(yard, 0), yard % 10);
        }
        fault(sand(0, 41), 6 + 80 + 1);
        fault(sand(0, 50), 6 + 80 + 1);
    }

    private static void sandAbove() {
        Edge.of(0, "(those above 39 can't be: a NUMBER more is a FAULT)");
        fine("sand 39 5");
        fault("sand 39 5 5", 10);
        fault("sand 39 5 100", 10);
        fine("sand 39 5;dug");
        fine(sand(20, 20));
        fault(sand(20, 21), 7 + 40 + 1);
        fine(sand(1, 39));
        fault(sand(1, 40), 6 + 78 + 1);
    }

    private static void numberAsItMayBe() {
        Edge.of(0, "sacks, air, boards, people or water and a NUMBER as it may be");
        for (int i = 0; i < NUMBER_WORDS.length; i++) {
            String word = NUMBER_WORDS[i] + " ";
            for (int v : new int[] {LEAST[i], MOST[i]}) {
                SandLorry x = new SandLorry();
                Edge.due(word + v, Edge.read(x, word + v), 0);
                Edge.due("now", x.now(2 + i), v);
            }
            fault(word + (MOST[i] + 1), word.length());
            if (LEAST[i] > 0) {
                fault(word + (LEAST[i] - 1), word.length());
            }
            fault(word, word.length());
            fault(word + "; dug", word.length());
            fault(word + "dug", word.length());
        }
    }

    private static void oneNumberOnly() {
        Edge.of(0, "and a NUMBER: not two");
        for (int i = 0; i < NUMBER_WORDS.length; i++) {
            fault(NUMBER_WORDS[i] + " 1 1", NUMBER_WORDS[i].length() + 3);
        }
        for (String word : KIND_WORDS) {
            fault(word + " 1 1", word.length() + 3);
        }
    }

    private static void kindWords() {
        Edge.of(0, "effort, dug, boarded, lightened, letdown, drawn, backed or waited");
        for (int kind = 0; kind < 8; kind++) {
            SandLorry x = new SandLorry();
            Edge.due(KIND_WORDS[kind], Edge.read(x, KIND_WORDS[kind]), 1);
            Edge.due("its KIND", x.planOf(0), kind);
            String word = KIND_WORDS[kind];
            fault(word.substring(1), 0);
            fault(word.substring(0, word.length() - 1), 0);
        }
    }

    private static void times() {
        Edge.of(0, "perhaps a NUMBER (1 to 9; 1 without it)");
        for (int kind = 0; kind < 8; kind++) {
            String word = KIND_WORDS[kind];
            Edge.due("without it", Edge.read(new SandLorry(), word), 1);
            Edge.due("1", Edge.read(new SandLorry(), word + " 1"), 1);
            Edge.due("9", Edge.read(new SandLorry(), word + " 9"), 9);
            Edge.due("09", Edge.read(new SandLorry(), word + " 09"), 9);
            fault(word + " 0", word.length() + 1);
            fault(word + " 10", word.length() + 1);
            fault(word + " 10000", word.length() + 1);
        }
    }

    // ---- THE PLAN of twenty

    /** A lorry with so many KINDS in THE PLAN. */
    private static SandLorry planned(int many) {
        SandLorry x = Edge.kinds();
        for (int rest = many; rest > 0; rest -= 9) {
            Edge.read(x, "backed " + Math.min(9, rest));
        }
        return x;
    }

    private static void planOfTwentyByWord() {
        Edge.of(0, "the WORD .. by which THE PLAN would have more than 20: its own");
        Edge.due("the twentieth", Edge.read(planned(19), "dug"), 20);
        Edge.due("the 21st", Edge.read(planned(20), "dug"), -1);
        Edge.due("behind an item", Edge.read(planned(20), "air 3; dug"), -1 - 7);
        Edge.due("the 21st of one text", Edge.read(planned(18), "dug;dug;dug"), -1 - 8);
        Edge.due("from none", Edge.read(planned(0), "dug 9;dug 9;dug;dug;dug"), -1 - 20);
        Edge.due("the last of one text", Edge.read(planned(0), "dug 9;dug 9;dug;dug"), 20);
    }

    private static void planOfTwentyByNumber() {
        Edge.of(0, "or the NUMBER, by which THE PLAN would have more than 20: its own");
        for (int room = 1; room <= 8; room++) {
            Edge.due("as many as there is room", Edge.read(planned(20 - room), "dug " + room), 20);
            Edge.due("one more", Edge.read(planned(20 - room), "dug " + (room + 1)), -1 - 4);
            Edge.due("nine", Edge.read(planned(20 - room), "dug 9"), -1 - 4);
        }
        Edge.due("nine where there is room", Edge.read(planned(11), "dug 9"), 20);
        Edge.due("nine where there is none", Edge.read(planned(12), "air 1;dug  9"), -1 - 11);
        Edge.due("in one text", Edge.read(planned(0), "dug 9;dug 9;dug 3"), -1 - 16);
    }

    private static void planOfTwentyWhenFull() {
        Edge.of(0, "(at most 20)");
        SandLorry x = planned(20);
        for (String word : KIND_WORDS) {
            Edge.due(word, Edge.read(x, word), -1);
            // The WORD alone would be one too many, so it is the first that can't stand there.
            Edge.due(word + " 1", Edge.read(x, word + " 1"), -1);
        }
        Edge.due("what needs no room", Edge.read(x, "air 3;sand 0 1"), 20);
        Edge.due("AIR", x.now(3), 3);
        Edge.due("count(0)", x.count(0), 20);
        x.clear();
        Edge.due("room again", Edge.read(x, "dug"), 1);
    }

    // ---- FAULTS

    private static void faultFirst() {
        Edge.of(0, "FAULT: the place (from 0) of the first byte of the first TOKEN that can't stand there");
        fault("mud", 0);
        fault("  mud", 2);
        fault("dug 10;mud", 4);
        fault("dug;mud;10", 4);
        fault("air 10000;;", 4);
        fault("sand 5 5 100 mud", 9);
    }

    private static void faultAtTheEnd() {
        Edge.of(0, "or how many bytes there are if it ends too early");
        fault("", 0);
        fault("  ", 2);
        fault("sand", 4);
        fault("sand 3", 6);
        fault("sand 3  ", 8);
        fault("water", 5);
        fault("dug;", 4);
        fault("dug; ", 5);
        String blank = " ".repeat(120);
        fault(blank, 120);
        fault("dug" + blank.substring(4) + ";", 120);
        fault(blank.substring(5) + "water", 120);
        fault(blank.substring(4) + "sand", 120);
        fault(blank.substring(1) + "$", 119);
    }

    private static void faultOfOtherBytes() {
        Edge.of(0, "a byte that begins no TOKEN");
        for (int b = 0; b < 256; b++) {
            boolean isToken = b == ' ' || b == ';' || b >= '0' && b <= '9' || b >= 'a' && b <= 'z';
            if (!isToken) {
                fault("dug;" + (char) b, 4);
                fault("sand 5 5" + (char) b, 8);
                fault("sand 5" + (char) b, 6);
                fault("air" + (char) b, 3);
            }
        }
    }

    private static void faultOfOtherWords() {
        Edge.of(0, "another WORD");
        for (String word : List.of("a", "z", "mud", "sunk", "yard", "minute", "plan", "push", "sands", "san", "sack")) {
            fault(word, 0);
            fault("dug;" + word + " 5", 4);
        }
    }

    private static void everyLetterCounts() {
        Edge.of(0, "another WORD: by a letter");
        for (String[] words : new String[][] {KIND_WORDS, NUMBER_WORDS, {"sand"}}) {
            for (String word : words) {
                for (int i = 0; i < word.length(); i++) {
                    for (char other : new char[] {'a', 'q', 'z'}) {
                        String changed = word.substring(0, i) + other + word.substring(i + 1);
                        // A NUMBER or two behind it, such as each of the WORDS may have.
                        fault(changed + " 1" + (word.equals("sand") ? " 1" : ""), changed.equals(word) ? -1 : 0);
                    }
                }
            }
        }
    }

    private static void faultChangesNothing() {
        Edge.of(17, "With a FAULT: -1 less the FAULT (nothing changes but that THE TAPE is empty; no finding).");
        String[] texts = {"sand 0 1 2 3;sacks 1;air 1;boards 1;people 1;water 1;mud", "clear", "air 3;air 10", "", "air 5;"};
        int[] places = {53, 0, 10, 0, 6};
        for (int i = 0; i < texts.length; i++) {
            SandLorry x = Edge.busy();
            SandLorry untouched = Edge.busy();
            x.wipe();
            untouched.wipe();
            int[] before = Edge.statusOf(x);
            Edge.due("'" + texts[i] + "'", Edge.read(x, texts[i]), -1 - places[i]);
            Edge.due("THE TAPE", x.count(3), 0);
            Edge.must("no finding", java.util.Arrays.equals(before, Edge.statusOf(x)));
            Edge.must("nothing changes by '" + texts[i] + "'", Edge.look(x).equals(Edge.look(untouched)));
        }
    }

    // ---- 17

    private static void emptyBehindText() {
        Edge.of(17, "THE TAPE is a TEXT, and empty then");
        SandLorry x = new SandLorry();
        Edge.due("dug", Edge.read(x, "dug"), 1);
        Edge.due("bytes", x.count(3), 0);
        Edge.due("empty", x.text(), -1);
        Edge.due("mud", Edge.read(x, "mud"), -1);
        Edge.due("bytes", x.count(3), 0);
        Edge.due("a shorter one behind it", Edge.read(x, "air 3"), 1);
    }

    private static void itemByItem() {
        Edge.of(17, "all that it tells is so, item by item");
        SandLorry x = new SandLorry();
        Edge.read(x, "sand 0 1 1 1;sand 1 9;water 5;water 6;dug;backed;sacks 3;dug");
        Edge.due("FIRM of 0", x.yardOf(0, 0), 1);
        Edge.due("FIRM of 1", x.yardOf(1, 0), 9);
        Edge.due("FIRM of 2", x.yardOf(2, 0), 1);
        Edge.due("WATER", x.now(6), 6);
        int[] kinds = {1, 6, 1};
        for (int i = 0; i < kinds.length; i++) {
            Edge.due("KIND " + i, x.planOf(i), kinds[i]);
        }
    }

    private static void fullTape() {
        Edge.of(0, "THE TAPE (bytes, at most 120)");
        SandLorry x = new SandLorry();
        Edge.feed(x, "air 3" + " ".repeat(111) + ";dug");
        Edge.due("bytes", x.count(3), 120);
        Edge.due("dug at the very end", x.text(), 1);
        Edge.due("AIR", x.now(3), 3);
        SandLorry y = new SandLorry();
        Edge.due("a FAULT at the very end", Edge.read(y, "air 1;".repeat(19) + "air 12"), -1 - 118);
        Edge.due("twenty items", Edge.read(y, "air 1;".repeat(19) + "air  2"), 0);
        Edge.due("AIR", y.now(3), 2);
    }

    private static void planIsAddedTo() {
        Edge.of(17, "how many KINDS THE PLAN has");
        SandLorry x = new SandLorry();
        Edge.due("none", Edge.read(x, "air 3"), 0);
        Edge.due("nine", Edge.read(x, "dug 9"), 9);
        Edge.due("nine more", Edge.read(x, "backed 9"), 18);
        Edge.due("twenty", Edge.read(x, "waited 2"), 20);
        int[] kinds = {1, 1, 6, 6, 7, 7};
        int[] places = {0, 8, 9, 17, 18, 19};
        for (int i = 0; i < kinds.length; i++) {
            Edge.due("KIND " + places[i], x.planOf(places[i]), kinds[i]);
        }
    }

    // ---- 19 to 21

    private static void clear() {
        Edge.of(19, "THE PLAN is empty: how many KINDS it had.");
        Edge.due("none", new SandLorry().clear(), 0);
        Edge.due("one", planned(1).clear(), 1);
        SandLorry x = planned(20);
        Edge.due("twenty", x.clear(), 20);
        Edge.due("none any more", x.clear(), 0);
        Edge.due("none to follow", x.follow(), 0);
        Edge.due("a first one", Edge.read(x, "dug"), 1);
        Edge.due("KIND 0", x.planOf(0), 1);
        Edge.due("no KIND 1", x.planOf(1), Edge.BEYOND);
    }

    private static void follow() {
        Edge.of(20, "how many were done");
        Edge.keeps(Edge::kinds, 0, "follow");
        Edge.keeps(Edge::outOn, 0, "follow");
        Edge.keeps(Edge::busyOut, 0, "follow");
        SandLorry x = Edge.kinds();
        Edge.read(x, "dug 2");
        x.set(6, 47);
        Edge.due("WATER for one", x.follow(), 1);
        Edge.due("none left for another", x.follow(), 0);
        Edge.due("WATER", x.now(6), 23);
        x.set(6, 48);
        Edge.due("WATER for both", x.follow(), 2);
        SandLorry y = Edge.on(37);
        Edge.read(y, "effort;waited");
        Edge.due("OUT behind the first", y.follow(), 1);
        Edge.due("YARD", y.now(0), 40);
        Edge.due("MINUTE", y.now(7), 1);
    }

    private static void followTwenty() {
        Edge.of(20, "THE PLAN is gone through, full");
        SandLorry x = Edge.firm(0);
        Edge.read(x, "effort 9;effort 9;effort 2");
        Edge.due("twenty", x.follow(), 20);
        Edge.due("SUNK", x.now(1), 80);
        Edge.due("twenty more", x.follow(), 20);
        Edge.due("SUNK at most", x.now(1), 99);
        Edge.due("PUSHES", x.now(13), 40);
        Edge.due("MINUTE", x.now(7), 40);
    }

    private static void plans() {
        Edge.of(21, "what 0 how many would be done, 1 GAIN, 2 what is drunk, 3 MINUTES");
        for (int what = 0; what <= 3; what++) {
            Edge.keeps(Edge::kinds, 0, "plans", what);
        }
        SandLorry x = Edge.kinds();
        x.go(1);
        Edge.read(x, "lightened;backed 3;waited");
        // WAITED begins at 15:13, in HEAT 3: 767 MINUTES.
        int[] due = {5, -6, 24 + 4 * 3 * 767 / 60, 840 - 30};
        for (int what = 0; what <= 3; what++) {
            Edge.due("plans(" + what + ")", x.plans(what), due[what]);
        }
        x.set(6, due[2] - 1);
        int[] less = {4, -6, 24, 43};
        for (int what = 0; what <= 3; what++) {
            Edge.due("a litre less, plans(" + what + ")", x.plans(what), less[what]);
        }
    }

    private static void plansOut() {
        Edge.of(21, "AHEAD, THE PLAN, where THE LORRY is OUT");
        for (int what = 0; what <= 3; what++) {
            Edge.keeps(Edge::busyOut, 0, "plans", what);
        }
        SandLorry x = Edge.on(36);
        Edge.read(x, "effort 3");
        int[] due = {2, 4, 0, 2};
        for (int what = 0; what <= 3; what++) {
            Edge.due("OUT behind two, plans(" + what + ")", x.plans(what), due[what]);
        }
    }
}
