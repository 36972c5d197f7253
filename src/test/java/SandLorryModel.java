import java.util.ArrayList;
import java.util.Arrays;
import java.util.HashMap;
import java.util.List;
import java.util.Map;
import java.util.Random;
import java.util.regex.Matcher;
import java.util.regex.Pattern;

/** Long random runs of calls, each answered by the class and by a second writing of the document. */
public final class SandLorryModel {
    private static final int RUNS = 3000;
    private static final int CALLS = 512;

    public static void main(String[] args) {
        int wrong = 0;
        Map<String, Integer> seen = new HashMap<>();
        for (int run = 0; run < RUNS && wrong < 10; run++) {
            wrong += new Run(run, seen).go();
        }
        wrong += unseen(seen);
        if (args.length > 0) {
            System.out.println(new java.util.TreeMap<>(seen));
        }
        System.out.println(RUNS + " runs of " + CALLS + " calls, " + wrong + " wrong");
        if (wrong != 0) {
            System.exit(1);
        }
    }

    /** Runs that never came to a finding that a call may tell would prove little. */
    private static int unseen(Map<String, Integer> seen) {
        String[] due = {
            "sand B", "yardOf B", "set B", "now B", "soft B", "wind B", "effort B", "effortOf B", "effortOf N",
            "go B", "go N", "go T", "gives B", "gives N", "gives T", "lasts B", "lasts N", "out B", "out N",
            "when B", "when N", "feed B", "feed F", "planOf B", "plans B", "best B", "best N", "airFor B", "airFor N",
            "sacksFor B", "sacksFor N", "waterFor N", "boardsFor B", "boardsFor N", "odds B", "odds T", "hold B",
            "as B", "as M", "as K", "sheet B", "sheet S", "write B", "write M", "copy B", "copy M", "copy K",
            "load B", "load M", "judge B", "judge M", "undo N", "count B", "status B",
            "text", "text FAULT", "text to a full PLAN"};
        int missing = 0;
        for (String call : due) {
            if (seen.getOrDefault(call, 0) < 20) {
                missing++;
                System.out.println("hardly ever asked: " + call);
            }
        }
        return missing;
    }

    // ---- the second writing

    /** What the document calls a finding. */
    private static final class Finding extends RuntimeException {
        private static final long serialVersionUID = 1L;
        final int which;

        Finding(int which) {
            super(null, null, false, false);
            this.which = which;
        }
    }

    private static void ask(boolean fine, char finding) {
        if (!fine) {
            throw new Finding("BFKNTMS".indexOf(finding));
        }
    }

    private static boolean in(int v, int least, int most) {
        return least <= v && v <= most;
    }

    private static class Effort {
        int minutes(World w) { return 1; }
        int work() { return 0; }
        int firstYardOfBoards(World w) { return 1000; }
        int boards(World w) { return 0; }
        int lighter() { return 0; }
        int step() { return 1; }
        int pushes(World w) { return 3; }
        void ready(World w) { }
    }

    private static class Dug extends Effort {
        @Override int minutes(World w) { return 30; }
        @Override int work() { return 3; }
        @Override void ready(World w) { w.sunk = Math.max(0, w.sunk - 10 * w.people); }
    }

    private static class Boarded extends Dug {
        @Override int minutes(World w) { return super.minutes(w) + 15; }
        @Override int boards(World w) { return w.boards; }
        @Override int firstYardOfBoards(World w) { return w.yard; }
        @Override int pushes(World w) { return w.boards + 1 < 3 ? 3 : w.boards + 1; }
    }

    private static final class Drawn extends Boarded {
        @Override int minutes(World w) { return super.minutes(w) + 60; }
        @Override int work() { return super.work() + 1; }
        @Override int lighter() { return 15; }
    }

    private static final class Lightened extends Effort {
        @Override int minutes(World w) { return 40; }
        @Override int work() { return 2; }
        @Override void ready(World w) { w.sacks = Math.max(0, w.sacks - 10); }
    }

    private static final class Letdown extends Effort {
        @Override int minutes(World w) { return 10; }
        @Override void ready(World w) { w.air = Math.min(9, w.air + 3); }
    }

    private static final class Backed extends Effort {
        @Override int step() { return -1; }
    }

    private static final class Waited extends Effort {
        @Override int minutes(World w) {
            int minutes = 1;
            while ((14 * 60 + w.minute + minutes) % 1440 != 4 * 60) {
                minutes++;
            }
            return minutes;
        }
        @Override int pushes(World w) { return 0; }
    }

    private static final Effort[] KINDS = {
        new Effort(), new Dug(), new Boarded(), new Lightened(), new Letdown(), new Drawn(), new Backed(), new Waited()};

    private static final class World {
        int[] firm = new int[40];
        int yard = 20;
        int sunk;
        int sacks = 20;
        int air;
        int boards = 2;
        int people = 4;
        int water = 900;
        int minute;
        int drunk;
        int pushes;
        int[] slots = new int[10];
        int[] spots = new int[10];
        List<Integer> plan = new ArrayList<>();
        int z = 1;

        World() {
            Arrays.fill(firm, 50);
            Arrays.fill(slots, -1);
            Arrays.fill(spots, -1);
        }

        World twin() {
            World t = new World();
            t.firm = firm.clone();
            t.yard = yard;
            t.sunk = sunk;
            t.sacks = sacks;
            t.air = air;
            t.boards = boards;
            t.people = people;
            t.water = water;
            t.minute = minute;
            t.drunk = drunk;
            t.pushes = pushes;
            t.slots = slots.clone();
            t.spots = spots.clone();
            t.plan = new ArrayList<>(plan);
            t.z = z;
            return t;
        }

        boolean isOut() { return yard == -1 || yard == 40; }
        int hour() { return (14 + minute / 60) % 24; }
        int heat() { return in(hour(), 10, 16) ? 3 : in(hour(), 20, 23) || in(hour(), 0, 5) ? 1 : 2; }
        int crust() { return in(hour(), 4, 7) ? 20 : 0; }
        int weight() { return 20 + sacks / 2 + sunk; }
        int grip(int y) { return firm[y] + 3 * air + crust(); }
        int drinks(Effort e) { return people * (e.work() + 1) * heat() * e.minutes(this) / 60; }

        boolean does(int kind) {
            Effort e = KINDS[kind];
            int drink = drinks(e);
            if (isOut() || water < drink) {
                return false;
            }
            water -= drink;
            drunk += drink;
            minute += e.minutes(this);
            e.ready(this);
            int first = e.firstYardOfBoards(this);
            int last = first + e.boards(this) - 1;
            for (int i = 0; i < e.pushes(this) && !isOut(); i++) {
                pushes++;
                int grip = grip(yard) + (in(yard, first, last) ? 30 : 0);
                if (grip >= weight() - e.lighter()) {
                    yard += e.step();
                    sunk = 0;
                } else {
                    sunk = Math.min(99, sunk + 4);
                    break;
                }
            }
            return true;
        }

        int doesPlan() {
            int done = 0;
            for (int kind : plan) {
                if (!does(kind)) {
                    break;
                }
                done++;
            }
            return done;
        }

        int draw() {
            z = z * 1103515245 + 12345;
            return z >>> 8;
        }

        int sum() { return Arrays.stream(firm).sum(); }

        int outBehind(int kind, int most) {
            World t = twin();
            for (int i = 0; i <= most; i++) {
                if (t.isOut()) {
                    return i;
                }
                if (i == most || !t.does(kind)) {
                    return Integer.MAX_VALUE;
                }
            }
            return Integer.MAX_VALUE;
        }
    }

    private static final class Fault extends RuntimeException {
        private static final long serialVersionUID = 1L;
        final int place;

        Fault(int place) {
            super(null, null, false, false);
            this.place = place;
        }
    }

    /** Cuts the whole text into tokens first, then looks at them. */
    private static final class Text {
        private static final Pattern TOKEN = Pattern.compile("[a-z]+|[0-9]+|[^ ]", Pattern.DOTALL);
        private static final List<String> KIND_WORDS = List.of(
            "effort", "dug", "boarded", "lightened", "letdown", "drawn", "backed", "waited");
        private final List<String> tokens = new ArrayList<>();
        private final List<Integer> places = new ArrayList<>();
        private int at;

        Text(String bytes) {
            Matcher m = TOKEN.matcher(bytes);
            while (m.find()) {
                tokens.add(m.group());
                places.add(m.start());
            }
            tokens.add("");
            places.add(bytes.length());
        }

        private boolean isNumber() { return !tokens.get(at).isEmpty() && Character.isDigit(tokens.get(at).charAt(0)); }

        private void need(boolean fine) {
            if (!fine) {
                throw new Fault(places.get(at));
            }
        }

        private int number(int least, int most) {
            need(isNumber());
            java.math.BigInteger n = new java.math.BigInteger(tokens.get(at));
            need(n.bitLength() < 20 && in(n.intValue(), least, most));
            at++;
            return n.intValue();
        }

        void tell(World w) {
            item(w);
            while (!tokens.get(at).isEmpty()) {
                need(tokens.get(at).equals(";"));
                at++;
                item(w);
            }
        }

        private void item(World w) {
            String word = tokens.get(at);
            int kind = KIND_WORDS.indexOf(word);
            if (kind >= 0) {
                need(w.plan.size() < 20);
                at++;
                w.plan.add(kind);
                int more = isNumber() ? number(1, Math.min(9, 21 - w.plan.size())) - 1 : 0;
                for (int i = 0; i < more; i++) {
                    w.plan.add(kind);
                }
                return;
            }
            need(List.of("sand", "sacks", "air", "boards", "people", "water").contains(word));
            at++;
            switch (word) {
                case "sacks": w.sacks = number(0, 99); break;
                case "air": w.air = number(0, 9); break;
                case "boards": w.boards = number(0, 8); break;
                case "people": w.people = number(1, 8); break;
                case "water": w.water = number(0, 9999); break;
                default:
                    int yard = number(0, 39);
                    do {
                        int v = number(0, yard > 39 ? -1 : 99);
                        w.firm[yard++] = v;
                    } while (isNumber());
            }
        }
    }

    private static final class Model {
        World w = new World();
        World kept;
        final StringBuilder tape = new StringBuilder();
        final int[] bits = new int[4];
        final int[][] sheets = new int[4][];
        final int[] found = new int[7];

        int kind(int slot) {
            ask(in(slot, 0, 9), 'B');
            ask(w.slots[slot] >= 0, 'N');
            return w.slots[slot];
        }

        int answer(String call, int... a) {
            switch (call) {
                case "sand": { ask(in(a[0], 0, 39) && in(a[1], 0, 99), 'B'); int was = w.firm[a[0]]; w.firm[a[0]] = a[1]; return was; }
                case "yardOf": ask(in(a[0], 0, 39) && in(a[1], 0, 1), 'B'); return a[1] == 0 ? w.firm[a[0]] : w.grip(a[0]);
                case "set": return set(a[0], a[1]);
                case "now": return now(a[0]);
                case "soft": return soft(a[0], a[1]);
                case "wind":
                    ask(in(a[0], 1, 60), 'B');
                    for (int i = 0; i < a[0]; i++) { int y = w.draw() % 40; w.firm[y] = w.draw() % 100; }
                    return w.sum();
                case "effort": ask(in(a[0], 0, 9) && in(a[1], -1, 7), 'B'); w.slots[a[0]] = a[1]; return 1;
                case "effortOf": {
                    ask(in(a[1], 0, 3), 'B');
                    int k = kind(a[0]);
                    return new int[] {k, KINDS[k].minutes(w), KINDS[k].work(), w.drinks(KINDS[k])}[a[1]];
                }
                case "go": { int k = kind(a[0]); int y = w.yard; ask(w.does(k), 'T'); return w.yard - y; }
                case "gives": {
                    ask(in(a[1], 0, 3), 'B');
                    int k = kind(a[0]);
                    World t = w.twin();
                    ask(t.does(k), 'T');
                    return new int[] {t.yard - w.yard, t.minute - w.minute, w.water - t.water, t.sunk}[a[1]];
                }
                case "lasts": { int k = kind(a[0]); World t = w.twin(); int n = 0; while (n < 50 && t.does(k)) { n++; } return n; }
                case "out": { int n = w.outBehind(kind(a[0]), 50); ask(n != Integer.MAX_VALUE, 'N'); return n; }
                case "when": return when(kind(a[0]));
                default: return answerOfPlans(call, a);
            }
        }

        int answerOfPlans(String call, int... a) {
            switch (call) {
                case "feed":
                    ask(in(a[1], 1, 4), 'B');
                    ask(tape.length() + a[1] <= 120, 'F');
                    for (int i = 4 - a[1]; i < 4; i++) { tape.append((char) (java.nio.ByteBuffer.allocate(4).putInt(a[0]).get(i) & 255)); }
                    return tape.length();
                case "wipe": { int n = tape.length(); tape.setLength(0); return n; }
                case "text": return text();
                case "planOf": ask(in(a[0], 0, w.plan.size() - 1), 'B'); return w.plan.get(a[0]);
                case "clear": { int n = w.plan.size(); w.plan.clear(); return n; }
                case "follow": return w.doesPlan();
                case "plans": {
                    ask(in(a[0], 0, 3), 'B');
                    World t = w.twin();
                    return new int[] {t.doesPlan(), t.yard - w.yard, t.drunk - w.drunk, t.minute - w.minute}[a[0]];
                }
                case "best": return best(a[0], a[1]);
                case "airFor": return airFor(a[0]);
                case "sacksFor": return sacksFor(a[0]);
                case "waterFor": return waterFor();
                case "boardsFor": return boardsFor(a[0]);
                case "way": {
                    int on = w.outBehind(0, 20);
                    int back = w.outBehind(6, 20);
                    return on == Integer.MAX_VALUE && back == on ? 0 : on <= back ? 1 : -1;
                }
                case "odds": return odds(a[0]);
                case "seed": { int was = w.z; w.z = a[0]; return was; }
                default: return answerOfSheets(call, a);
            }
        }

        int answerOfSheets(String call, int... a) {
            switch (call) {
                case "hold": ask(in(a[0], 0, 9) && in(a[1], -1, 9), 'B'); w.spots[a[0]] = a[1]; return 1;
                case "as": {
                    ask(in(a[0], 0, 9) && in(a[1], 0, 7), 'B');
                    int slot = w.spots[a[0]];
                    ask(slot >= 0 && w.slots[slot] >= 0, 'M');
                    ask(KINDS[a[1]].getClass().isInstance(KINDS[w.slots[slot]]), 'K');
                    return slot;
                }
                case "sheet":
                    ask(in(a[0], 0, 3) && List.of(0, 8, 16, 32).contains(a[1]), 'B');
                    ask(a[2] >= 0, 'S');
                    ask(a[2] <= 40, 'B');
                    bits[a[0]] = a[1];
                    sheets[a[0]] = a[1] == 0 ? null : new int[a[2]];
                    return a[1] == 0 ? 0 : a[2];
                case "write": {
                    int[] s = sheet(a[0]);
                    ask(in(a[1], 0, s.length - 1), 'B');
                    int shift = 32 - bits[a[0]];
                    s[a[1]] = a[2] << shift >> shift;
                    return 1;
                }
                case "copy": return copy(a[0], a[1], a[2], a[3], a[4]);
                case "load": {
                    int[] s = sheet(a[0]);
                    ask(in(a[1], 0, 39), 'B');
                    int n = 0;
                    for (int v : s) {
                        if (!in(v, 0, 99) || a[1] + n > 39) { break; }
                        w.firm[a[1] + n++] = v;
                    }
                    return n;
                }
                case "judge": return judge(sheet(a[0]));
                case "image": kept = w.twin(); return 1;
                case "undo": ask(kept != null, 'N'); w = kept.twin(); return w.minute;
                case "tear": { int was = kept == null ? 0 : 1; kept = null; return was; }
                case "count": return count(a[0]);
                case "status": ask(in(a[0], -1, 6), 'B'); return a[0] < 0 ? Arrays.stream(found).sum() : found[a[0]];
                default: throw new IllegalStateException(call);
            }
        }

        int set(int what, int v) {
            int[] most = {39, 99, 99, 9, 8, 8, 9999};
            ask(in(what, 0, 6) && in(v, what == 5 ? 1 : 0, most[Math.floorMod(what, 7)]), 'B');
            int was = now(what);
            switch (what) {
                case 0: w.yard = v; break;
                case 1: w.sunk = v; break;
                case 2: w.sacks = v; break;
                case 3: w.air = v; break;
                case 4: w.boards = v; break;
                case 5: w.people = v; break;
                default: w.water = v;
            }
            return was;
        }

        int now(int what) {
            ask(in(what, 0, 13), 'B');
            return new int[] {w.yard, w.sunk, w.sacks, w.air, w.boards, w.people, w.water, w.minute, w.hour(), w.heat(),
                w.weight(), w.isOut() ? 1 : 0, w.drunk, w.pushes}[what];
        }

        int soft(int v, int what) {
            ask(in(v, 0, 100) && in(what, 0, 1), 'B');
            for (int n = 40; n > 0; n--) {
                for (int first = 0; first + n <= 40; first++) {
                    if (Arrays.stream(w.firm, first, first + n).allMatch(f -> f < v)) {
                        return what == 0 ? n : first;
                    }
                }
            }
            return what == 0 ? 0 : -1;
        }

        int when(int kind) {
            int best = -1;
            int gain = -100;
            World t = w.twin();
            for (int i = 0; i < 24; i++) {
                World u = t.twin();
                if (u.does(kind) && u.yard - w.yard > gain) {
                    gain = u.yard - w.yard;
                    best = t.hour();
                }
                do {
                    t.minute++;
                } while ((14 * 60 + t.minute) % 60 != 0);
            }
            ask(best >= 0, 'N');
            return best;
        }

        int text() {
            String bytes = tape.toString();
            tape.setLength(0);
            World t = w.twin();
            try {
                new Text(bytes).tell(t);
            } catch (Fault f) {
                return -1 - f.place;
            }
            w = t;
            return w.plan.size();
        }

        int best(int n, int what) {
            ask(in(n, 1, 3) && in(what, 0, 2), 'B');
            int rows = n == 1 ? 10 : n == 2 ? 100 : 1000;
            int[] best = null;
            for (int row = rows - 1; row >= 0; row--) {
                int[] kinds = {row / 100, row / 10 % 10, row % 10};
                World t = w.twin();
                boolean fine = true;
                for (int i = 3 - n; i < 3 && fine; i++) {
                    fine = kinds[i] < 8 && t.does(kinds[i]);
                }
                int[] got = {t.yard - w.yard, t.drunk - w.drunk, row};
                if (fine && (best == null || got[0] > best[0] || got[0] == best[0] && got[1] <= best[1])) {
                    best = got;
                }
            }
            ask(best != null, 'N');
            return best[what];
        }

        int airFor(int yard) {
            ask(in(yard, 0, 39), 'B');
            World t = w.twin();
            for (t.air = 0; t.air < 10 && t.grip(yard) < t.weight();) {
                t.air++;
            }
            ask(t.air < 10, 'N');
            return t.air;
        }

        int sacksFor(int yard) {
            ask(in(yard, 0, 39), 'B');
            World t = w.twin();
            t.sunk = 0;
            for (t.sacks = 99; t.sacks >= 0 && t.grip(yard) < t.weight();) {
                t.sacks--;
            }
            ask(t.sacks >= 0, 'N');
            return t.sacks;
        }

        int waterFor() {
            int low = 0;
            int high = 10000;
            while (low < high) {
                int middle = (low + high) / 2;
                World t = w.twin();
                t.water = middle;
                if (t.doesPlan() == t.plan.size()) {
                    high = middle;
                } else {
                    low = middle + 1;
                }
            }
            ask(low <= 9999, 'N');
            return low;
        }

        int boardsFor(int n) {
            ask(in(n, 1, 9), 'B');
            int fewest = 9;
            for (int boards = 8; boards >= 0; boards--) {
                World t = w.twin();
                t.boards = boards;
                if (t.does(2) && t.yard - w.yard >= n) {
                    fewest = boards;
                }
            }
            ask(fewest < 9, 'N');
            return fewest;
        }

        int odds(int n) {
            ask(in(n, 1, 20), 'B');
            ask(!w.isOut(), 'T');
            int often = 0;
            for (int i = 0; i < n; i++) {
                World t = w.twin();
                t.firm[t.yard] = w.draw() % 100;
                often += t.grip(t.yard) >= t.weight() ? 1 : 0;
            }
            return often;
        }

        int[] sheet(int s) {
            ask(in(s, 0, 3), 'B');
            ask(sheets[s] != null, 'M');
            return sheets[s];
        }

        int copy(int s, int from, int t, int to, int n) {
            ask(in(s, 0, 3) && in(t, 0, 3), 'B');
            int[] source = sheet(s).clone();
            int[] target = sheet(t);
            ask(bits[s] == bits[t], 'K');
            ask(from >= 0 && to >= 0 && n >= 0, 'B');
            ask((long) from + n <= source.length && (long) to + n <= target.length, 'B');
            for (int i = 0; i < n; i++) {
                target[to + i] = source[from + i];
            }
            return n;
        }

        int judge(int[] numbers) {
            World t = w.twin();
            List<Integer> yards = new ArrayList<>();
            for (int kind : w.plan) {
                if (!t.does(kind)) {
                    break;
                }
                yards.add(t.yard);
            }
            for (int i = 0; i < numbers.length; i++) {
                if (i >= yards.size() || yards.get(i) != numbers[i]) {
                    return i + 1;
                }
            }
            return 0;
        }

        int count(int what) {
            ask(in(what, 0, 5), 'B');
            int slots = (int) Arrays.stream(w.slots).filter(k -> k >= 0).count();
            int spots = (int) Arrays.stream(w.spots).filter(k -> k >= 0).count();
            return new int[] {w.plan.size(), slots, spots, tape.length(), w.z, w.sum()}[what];
        }
    }

    // ---- the runs

    private static int real(SandLorry x, String call, int... a) {
        switch (call) {
            case "sand": return x.sand(a[0], a[1]);
            case "yardOf": return x.yardOf(a[0], a[1]);
            case "set": return x.set(a[0], a[1]);
            case "now": return x.now(a[0]);
            case "soft": return x.soft(a[0], a[1]);
            case "wind": return x.wind(a[0]);
            case "effort": return x.effort(a[0], a[1]);
            case "effortOf": return x.effortOf(a[0], a[1]);
            case "go": return x.go(a[0]);
            case "gives": return x.gives(a[0], a[1]);
            case "lasts": return x.lasts(a[0]);
            case "out": return x.out(a[0]);
            case "when": return x.when(a[0]);
            case "feed": return x.feed(a[0], a[1]);
            case "wipe": return x.wipe();
            case "text": return x.text();
            case "planOf": return x.planOf(a[0]);
            case "clear": return x.clear();
            case "follow": return x.follow();
            case "plans": return x.plans(a[0]);
            case "best": return x.best(a[0], a[1]);
            case "airFor": return x.airFor(a[0]);
            case "sacksFor": return x.sacksFor(a[0]);
            case "waterFor": return x.waterFor();
            case "boardsFor": return x.boardsFor(a[0]);
            case "way": return x.way();
            case "odds": return x.odds(a[0]);
            case "seed": return x.seed(a[0]);
            case "hold": return x.hold(a[0], a[1]);
            case "as": return x.as(a[0], a[1]);
            case "sheet": return x.sheet(a[0], a[1], a[2]);
            case "write": return x.write(a[0], a[1], a[2]);
            case "copy": return x.copy(a[0], a[1], a[2], a[3], a[4]);
            case "load": return x.load(a[0], a[1]);
            case "judge": return x.judge(a[0]);
            case "image": return x.image();
            case "undo": return x.undo();
            case "tear": return x.tear();
            case "count": return x.count(a[0]);
            case "status": return x.status(a[0]);
            default: throw new IllegalStateException(call);
        }
    }

    private static final class Run {
        private static final String[] WORDS = {
            "effort", "dug", "boarded", "lightened", "letdown", "drawn", "backed", "waited",
            "sand", "sacks", "air", "boards", "people", "water"};
        private final int number;
        private final Map<String, Integer> seen;
        private final Random random;
        private final SandLorry real = new SandLorry();
        private final Model model = new Model();
        private int calls;
        private int wrong;

        Run(int number, Map<String, Integer> seen) {
            this.number = number;
            this.seen = seen;
            this.random = new Random(number);
        }

        int go() {
            // Half of the runs begin with an effort of each kind, so that more is done than refused.
            for (int kind = 0; kind < 8 && number % 2 == 0; kind++) {
                call("effort", kind, kind);
            }
            while (calls < CALLS && wrong == 0) {
                step();
            }
            return wrong;
        }

        /** A number mostly within its limits, else just or far beyond them. */
        private int some(int least, int most) {
            switch (random.nextInt(24)) {
                case 0: return least - 1;
                case 1: return most + 1;
                case 2: return random.nextBoolean() ? least : most;
                case 3: return random.nextInt(8) > 0 ? most : random.nextBoolean() ? Integer.MIN_VALUE : Integer.MAX_VALUE;
                default: return least + random.nextInt(most - least + 1);
            }
        }

        private void call(String call, int... a) {
            if (calls >= CALLS || wrong > 0) {
                return;
            }
            calls++;
            int want;
            try {
                want = model.answer(call, a);
            } catch (Finding f) {
                model.found[f.which]++;
                want = -1000001 - f.which;
                seen.merge(call + " " + "BFKNTMS".charAt(f.which), 1, Integer::sum);
            }
            int got = real(real, call, a);
            if (call.equals("text")) {
                seen.merge(want < 0 ? "text FAULT" : want == 20 ? "text to a full PLAN" : "text", 1, Integer::sum);
            }
            if (got != want) {
                wrong++;
                System.out.println("run " + number + ", call " + calls + ": " + call + Arrays.toString(a)
                    + " answered " + got + ", due is " + want);
            }
        }

        private void step() {
            switch (random.nextInt(48)) {
                case 0: call("sand", some(0, 39), random.nextBoolean() ? some(0, 99) : some(0, 30)); break;
                case 1: call("yardOf", some(0, 39), some(0, 1)); break;
                case 2: case 3: setSome(); break;
                case 4: case 5: call("now", some(0, 13)); break;
                case 6: call("soft", some(0, 100), some(0, 1)); break;
                case 7: call("wind", some(1, 60)); break;
                case 8: case 9: case 10: call("effort", some(0, 9), some(-1, 7)); break;
                case 11: call("effortOf", some(0, 9), some(0, 3)); break;
                case 12: case 13: case 14: call("go", some(0, 9)); call("now", some(0, 13)); break;
                case 15: call("gives", some(0, 9), some(0, 3)); break;
                case 16: call("lasts", some(0, 9)); break;
                case 17: call("out", some(0, 9)); break;
                case 18: call("when", some(0, 9)); break;
                case 19: call("feed", random.nextInt(), some(1, 4)); if (random.nextInt(20) == 0) { fill(); } break;
                case 20: call(random.nextBoolean() ? "wipe" : "text"); break;
                case 21: case 22: case 23: readSome(); break;
                case 24: call("planOf", some(0, random.nextBoolean() ? 19 : 3)); break;
                case 25: call(random.nextInt(3) == 0 ? "clear" : "follow"); call("now", some(0, 13)); break;
                case 26: call("plans", some(0, 3)); break;
                case 27: if (random.nextInt(4) == 0) { bestOfAll(); } break;
                case 28: call("airFor", some(0, 39)); break;
                case 29: call("sacksFor", some(0, 39)); break;
                case 30: call("waterFor"); break;
                case 31: call("boardsFor", some(1, 9)); break;
                case 32: call("way"); break;
                case 33: call("odds", some(1, 20)); break;
                case 34: call("seed", random.nextInt()); break;
                case 35: case 36: call("hold", some(0, 9), some(-1, 9)); break;
                case 37: call("as", some(0, 9), some(0, 7)); break;
                case 38: call("sheet", some(0, 3), new int[] {0, 8, 8, 16, 16, 32, 7}[random.nextInt(7)], some(0, 40)); break;
                case 39: writeSome(); break;
                case 40: call("copy", some(0, 3), some(0, 5), some(0, 3), some(0, 5), some(0, 6)); break;
                case 41: call("load", some(0, 3), some(0, 39)); break;
                case 42: call("judge", some(0, 3)); judgeRight(); break;
                case 43: call("image"); break;
                case 44: call("undo"); break;
                case 45: if (random.nextInt(4) == 0) { call("tear"); } break;
                case 46: call("count", some(0, 5)); break;
                default: call("status", some(-1, 6));
            }
        }

        private void setSome() {
            int[] most = {39, 99, 99, 9, 8, 8, 9999};
            int what = some(0, 6);
            boolean isLow = what != 0 && random.nextInt(3) > 0;
            int top = most[Math.floorMod(what, 7)];
            call("set", what, some(what == 5 ? 1 : 0, isLow ? Math.max(2, top / 8) : top));
        }

        private void fill() {
            for (int i = 0; i < 34; i++) {
                call("feed", random.nextInt(), random.nextInt(4) == 0 ? some(1, 4) : 4);
            }
        }

        private void bestOfAll() {
            int n = some(1, 3);
            for (int what = 0; what <= 2; what++) {
                call("best", n, what);
            }
            call("best", some(1, 3), some(0, 2));
        }

        private void writeSome() {
            int s = some(0, 3);
            for (int i = random.nextInt(4); i >= 0; i--) {
                call("write", s, some(0, 9), random.nextInt(4) == 0 ? random.nextInt() : random.nextInt(45) - 2);
            }
        }

        /** Writes the YARDS that are due for a while, so that the reader has more to do than the first number. */
        private void judgeRight() {
            int s = random.nextInt(4);
            call("sheet", s, 8, random.nextInt(6));
            World t = model.w.twin();
            for (int i = 0; i < 5 && i < model.w.plan.size() && t.does(model.w.plan.get(i)); i++) {
                call("write", s, i, random.nextInt(8) == 0 ? 20 : t.yard);
            }
            call("judge", s);
        }

        private String item() {
            int word = random.nextInt(WORDS.length);
            StringBuilder text = new StringBuilder(WORDS[word]);
            int[] least = {0, 0, 0, 1, 0};
            int[] most = {99, 9, 8, 8, 9999};
            if (word == 8) {
                text.append(' ').append(some(0, 39));
                for (int i = random.nextInt(5); i >= 0; i--) {
                    text.append(' ').append(some(0, 99));
                }
            } else if (word > 8) {
                text.append(random.nextBoolean() ? " " : "").append(some(least[word - 9], most[word - 9]));
            } else if (random.nextBoolean()) {
                text.append(random.nextBoolean() ? " " : "").append(some(1, 9));
            }
            return text.toString();
        }

        private void readSome() {
            StringBuilder text = new StringBuilder(item());
            for (int i = random.nextInt(5); i > 0; i--) {
                text.append(random.nextBoolean() ? ";" : " ; ").append(item());
            }
            while (random.nextInt(4) == 0) {
                String signs = ";; az09-$A\t~";
                int at = random.nextInt(text.length() + 1);
                char sign = random.nextInt(12) == 0 ? (char) random.nextInt(256) : signs.charAt(random.nextInt(signs.length()));
                if (random.nextBoolean() || at == text.length()) {
                    text.insert(at, sign);
                } else {
                    text.deleteCharAt(at);
                }
            }
            call("wipe");
            for (int at = 0; at < text.length(); at += 4) {
                int bytes = 0;
                int n = Math.min(4, text.length() - at);
                for (int i = 0; i < n; i++) {
                    bytes = bytes << 8 | text.charAt(at + i);
                }
                call("feed", bytes, n);
            }
            call("text");
            if (random.nextInt(6) == 0) {
                call("clear");
            }
        }
    }
}
