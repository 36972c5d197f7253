import java.lang.reflect.Method;
import java.util.ArrayList;
import java.util.Arrays;
import java.util.HashMap;
import java.util.List;
import java.util.Map;
import java.util.function.Supplier;

/** What the tests of the edges share: the asking, some lorries to begin with, and a look at all that can be seen. */
final class Edge {
    static final int BEYOND = -1000001;
    static final int FULL = -1000002;
    static final int KIND = -1000003;
    static final int NONE = -1000004;
    static final int STATE = -1000005;
    static final int MISSING = -1000006;
    static final int SIZE = -1000007;

    private static final Map<String, Method> FACE = faceOf();

    private static int sentences = 0;
    private static int asked = 0;
    private static int wrong = 0;
    private static String sentence = "";
    private static int askedBefore = 0;

    private Edge() {
    }

    // ---- asking

    /** Begins the test of a sentence of the document; promise 0 stands for its "Terms". */
    static void of(int promise, String words) {
        closeSentence();
        sentences++;
        sentence = (promise == 0 ? "Terms" : "Promise " + promise) + ", \"" + words + "\"";
    }

    static void due(String what, int got, int want) {
        asked++;
        if (got != want) {
            fail(what + " answered " + got + ", due is " + want);
        }
    }

    static void must(String what, boolean holds) {
        asked++;
        if (!holds) {
            fail(what);
        }
    }

    static void end() {
        closeSentence();
        System.out.println(sentences + " sentences, " + asked + " answers asked, " + wrong + " wrong");
        if (wrong != 0) {
            System.exit(1);
        }
    }

    private static void closeSentence() {
        if (sentences > 0 && asked == askedBefore) {
            fail("nothing was asked");
        }
        askedBefore = asked;
    }

    private static void fail(String what) {
        wrong++;
        System.out.println(sentence + ": " + what);
    }

    // ---- calls by name

    private static Map<String, Method> faceOf() {
        Map<String, Method> face = new HashMap<>();
        for (Method m : SandLorry.class.getDeclaredMethods()) {
            if (java.lang.reflect.Modifier.isPublic(m.getModifiers())) {
                face.put(m.getName(), m);
            }
        }
        return face;
    }

    static int call(SandLorry x, String name, int... args) {
        Object[] boxed = Arrays.stream(args).boxed().toArray();
        try {
            return (Integer) FACE.get(name).invoke(x, boxed);
        } catch (ReflectiveOperationException e) {
            throw new IllegalStateException(told(name, args), e);
        }
    }

    static String told(String name, int... args) {
        String row = Arrays.toString(args);
        return name + "(" + row.substring(1, row.length() - 1) + ")";
    }

    // ---- refusals

    /** The call answers the finding on such a lorry, and nothing but status() has changed behind it. */
    static void refused(Supplier<SandLorry> maker, int finding, String name, int... args) {
        SandLorry x = maker.get();
        int[] before = statusOf(x);
        due(told(name, args), call(x, name, args), finding);
        int[] after = statusOf(x);
        before[0]++;
        before[-1000000 - finding]++;
        must("status() behind " + told(name, args) + " is " + Arrays.toString(after) + ", due is "
            + Arrays.toString(before), Arrays.equals(before, after));
        sameAsUntouched(maker, x, told(name, args));
    }

    /** The call answers so on such a lorry, and nothing at all has changed behind it. */
    static void keeps(Supplier<SandLorry> maker, int answer, String name, int... args) {
        SandLorry x = maker.get();
        int[] before = statusOf(x);
        due(told(name, args), call(x, name, args), answer);
        must("status() changed by " + told(name, args), Arrays.equals(before, statusOf(x)));
        sameAsUntouched(maker, x, told(name, args));
    }

    private static void sameAsUntouched(Supplier<SandLorry> maker, SandLorry x, String what) {
        SandLorry untouched = maker.get();
        statusOf(untouched);
        statusOf(untouched);
        List<Integer> want = look(untouched);
        List<Integer> got = look(x);
        must("all but status() stays by " + what + ": " + got + ", due is " + want, got.equals(want));
    }

    /** All findings, then each. */
    static int[] statusOf(SandLorry x) {
        int[] row = new int[8];
        for (int which = -1; which <= 6; which++) {
            row[which + 1] = x.status(which);
        }
        return row;
    }

    // ---- looking

    /** All that can be seen of a lorry but status(); the looking itself changes much, so it is the last. */
    static List<Integer> look(SandLorry x) {
        List<Integer> seen = new ArrayList<>();
        lookAtKept(x, seen);
        for (int s = 0; s < 4; s++) {
            lookAtSheet(x, s, seen);
        }
        seen.add(x.text());
        for (int what = 2; what <= 6; what++) {
            seen.add(x.now(what));
        }
        lookAtPlan(x, seen);
        seen.add(x.undo());
        lookAtKept(x, seen);
        seen.add(x.tear());
        return seen;
    }

    /** All that an image keeps. */
    static void lookAtKept(SandLorry x, List<Integer> seen) {
        for (int what = 0; what <= 13; what++) {
            seen.add(x.now(what));
        }
        for (int yard = 0; yard < 40; yard++) {
            seen.add(x.yardOf(yard, 0));
        }
        for (int what = 0; what <= 5; what++) {
            seen.add(x.count(what));
        }
        lookAtPlan(x, seen);
        for (int slot = 0; slot < 10; slot++) {
            seen.add(x.effortOf(slot, 0));
        }
        // A SPOT whose slot holds nothing shows its slot only when that holds something.
        for (int slot = 0; slot < 10; slot++) {
            x.effort(slot, 0);
        }
        for (int spot = 0; spot < 10; spot++) {
            seen.add(x.as(spot, 0));
        }
    }

    private static void lookAtPlan(SandLorry x, List<Integer> seen) {
        int planned = x.count(0);
        seen.add(planned);
        for (int i = 0; i < planned; i++) {
            seen.add(x.planOf(i));
        }
    }

    private static void lookAtSheet(SandLorry x, int s, List<Integer> seen) {
        int came = x.load(s, 0);
        seen.add(came);
        for (int yard = 0; yard < came; yard++) {
            seen.add(x.yardOf(yard, 0));
        }
        // Of 8 bits both are 7, of 16 bits the second alone, of 32 bits neither.
        x.write(s, 0, 256 + 7);
        seen.add(Math.min(1, x.load(s, 0)));
        x.write(s, 0, 65536 + 7);
        seen.add(Math.min(1, x.load(s, 0)));
    }

    // ---- texts

    static void feed(SandLorry x, String text) {
        for (int at = 0; at < text.length(); at += 4) {
            int bytes = 0;
            int n = Math.min(4, text.length() - at);
            for (int i = 0; i < n; i++) {
                bytes = bytes << 8 | text.charAt(at + i);
            }
            x.feed(bytes, n);
        }
    }

    static int read(SandLorry x, String text) {
        feed(x, text);
        return x.text();
    }

    // ---- lorries to begin with

    static SandLorry fresh() {
        return new SandLorry();
    }

    /** Slots 0 to 7 hold the KINDS 0 to 7; 8 and 9 nothing. */
    static SandLorry kinds() {
        SandLorry x = new SandLorry();
        for (int kind = 0; kind < 8; kind++) {
            x.effort(kind, kind);
        }
        return x;
    }

    /** As kinds(), on a YARD. */
    static SandLorry on(int yard) {
        SandLorry x = kinds();
        x.set(0, yard);
        return x;
    }

    /** As kinds(), all YARDS so FIRM. */
    static SandLorry firm(int v) {
        SandLorry x = kinds();
        firmAll(x, v);
        return x;
    }

    static void firmAll(SandLorry x, int v) {
        x.sheet(3, 8, 40);
        for (int i = 0; i < 40; i++) {
            x.write(3, i, v);
        }
        x.load(3, 0);
        x.sheet(3, 0, 0);
    }

    static SandLorry outOn() {
        SandLorry x = on(39);
        x.go(0);
        return x;
    }

    static SandLorry outBack() {
        SandLorry x = on(0);
        x.go(6);
        return x;
    }

    /** Something of all that there is: what was done, a full PLAN, a TAPE, SHEETS of each kind, an image of otherwise. */
    static SandLorry busy() {
        SandLorry x = kinds();
        x.sand(5, 3);
        x.hold(0, 5);
        read(x, "sacks 31;waited;drawn 2");
        x.go(1);
        x.seed(-77);
        x.image();
        fill(x);
        return x;
    }

    private static void fill(SandLorry x) {
        x.go(4);
        x.go(6);
        x.wind(3);
        x.set(1, 11);
        x.effort(7, -1);
        x.hold(0, 2);
        x.hold(1, 7);
        x.hold(9, 6);
        x.hold(8, 9);
        read(x, "dug 9;boarded 2;backed;letdown 4;effort");
        int[] bits = {8, 16, 0, 32};
        for (int s = 0; s < 4; s++) {
            x.sheet(s, bits[s], s + 2);
            x.write(s, 0, 20 + s);
            x.write(s, 1, 30 + s);
        }
        feed(x, "people 3;water 77");
    }

    /** As busy(), but OUT. */
    static SandLorry busyOut() {
        SandLorry x = busy();
        x.set(0, 39);
        x.set(1, 0);
        x.sand(39, 99);
        x.go(0);
        return x;
    }

    /** As kinds(), with all as at first but MINUTE, what was drunk and PUSHES. */
    static SandLorry at(int minute) {
        SandLorry x = kinds();
        x.sand(20, 0);
        x.set(2, 99);
        x.set(4, 0);
        x.set(5, 1);
        x.set(6, 9999);
        int[] slots = {5, 1, 4, 0};
        int[] minutes = {105, 30, 10, 1};
        for (int i = 0; i < slots.length; i++) {
            while (minute - x.now(7) >= minutes[i]) {
                // No PUSH goes on: at most GRIP is 47 by AIR and the crust, at least WEIGHT 54 by a rope.
                x.go(slots[i]);
            }
        }
        x.sand(20, 50);
        int[] first = {20, 0, 20, 0, 2, 4, 900};
        for (int what = 0; what < first.length; what++) {
            x.set(what, first[what]);
        }
        return x;
    }

    /** An EFFORT that fails till the crust comes, so many minutes ahead of it, on a YARD from which one PUSH is enough. */
    static SandLorry aheadOfCrust(int minutes, int yard) {
        SandLorry x = at(840 - minutes);
        x.set(0, yard);
        x.set(1, 99);
        x.set(2, 40);
        x.set(3, 9);
        x.sand(yard, 99);
        return x;
    }
}
