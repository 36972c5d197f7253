import java.util.Arrays;

/** A lorry that is stuck in a row of yards of sand; the document's promises tell what each call answers. */
public final class SandLorry {
    private static final int LOW = -1000001;
    private static final int BEYOND = 0;
    private static final int FULL = 1;
    private static final int KIND = 2;
    private static final int NONE = 3;
    private static final int STATE = 4;
    private static final int MISSING = 5;
    private static final int SIZE = 6;
    private static final int FINDINGS = 7;

    private static final int YARDS = 40;
    private static final int MOST_FIRM = 99;
    private static final int FIRST_FIRM = 50;

    // The lorry's numbers: 0 to 7 stand in the order in which set() and now() name them.
    private static final int YARD = 0;
    private static final int SUNK = 1;
    private static final int SACKS = 2;
    private static final int AIR = 3;
    private static final int BOARDS = 4;
    private static final int PEOPLE = 5;
    private static final int WATER = 6;
    private static final int MINUTE = 7;
    private static final int DRUNK = 8;
    private static final int PUSHES = 9;
    private static final int NUMBERS = 10;

    private static final int MOST_SUNK = 99;
    private static final int MOST_SACKS = 99;
    private static final int MOST_AIR = 9;
    private static final int MOST_BOARDS = 8;
    private static final int MOST_PEOPLE = 8;
    private static final int MOST_WATER = 9999;

    private static final int NOTHING = -1;
    private static final int EFFORT = 0;
    private static final int DUG = 1;
    private static final int BOARDED = 2;
    private static final int LIGHTENED = 3;
    private static final int LETDOWN = 4;
    private static final int DRAWN = 5;
    private static final int BACKED = 6;
    private static final int WAITED = 7;
    private static final int KINDS = 8;

    private static final int SLOTS = 10;
    private static final int SPOTS = 10;
    private static final int PLAN_ROOM = 20;
    private static final int TAPE_ROOM = 120;
    private static final int SHEETS = 4;
    private static final int SHEET_ROOM = 40;
    private static final int LONGEST_ROW = 3;
    private static final int DAY = 1440;

    private final Scene scene = new Scene();
    private final Scene kept = new Scene();
    private final Scene draft = new Scene();
    private final Lorry lorry = scene.lorry;
    private final Lorry trial = new Lorry(scene.firm);
    private final Search search = new Search(scene.firm);
    private final Tape tape = new Tape();
    private final Sheet[] sheets = {new Sheet(), new Sheet(), new Sheet(), new Sheet()};
    private final int[] findings = new int[FINDINGS];
    private boolean isKept;

    public SandLorry() {
    }

    // ---- sand, lorry

    public int sand(int yard, int v) {
        if (!isYard(yard) || v < 0 || v > MOST_FIRM) {
            return finding(BEYOND);
        }
        int was = scene.firm[yard];
        scene.firm[yard] = v;
        return was;
    }

    public int yardOf(int yard, int what) {
        if (!isYard(yard) || what < 0 || what > 1) {
            return finding(BEYOND);
        }
        int firm = scene.firm[yard];
        return what == 0 ? firm : lorry.gripOf(firm, lorry.has[AIR]);
    }

    public int set(int what, int v) {
        if (what < YARD || what > WATER || v < leastOf(what) || v > mostOf(what)) {
            return finding(BEYOND);
        }
        int was = lorry.has[what];
        lorry.has[what] = v;
        return was;
    }

    public int now(int what) {
        if (what >= YARD && what <= MINUTE) {
            return lorry.has[what];
        }
        switch (what) {
            case 8: return lorry.hour();
            case 9: return lorry.heat();
            case 10: return lorry.weight();
            case 11: return lorry.isOut() ? 1 : 0;
            case 12: return lorry.has[DRUNK];
            case 13: return lorry.has[PUSHES];
            default: return finding(BEYOND);
        }
    }

    public int soft(int v, int what) {
        if (v < 0 || v > MOST_FIRM + 1 || what < 0 || what > 1) {
            return finding(BEYOND);
        }
        int longest = 0;
        int first = -1;
        int length = 0;
        for (int yard = 0; yard < YARDS; yard++) {
            length = scene.firm[yard] < v ? length + 1 : 0;
            if (length > longest) {
                longest = length;
                first = yard - length + 1;
            }
        }
        return what == 0 ? longest : first;
    }

    public int wind(int n) {
        if (n < 1 || n > 60) {
            return finding(BEYOND);
        }
        for (int i = 0; i < n; i++) {
            int yard = scene.draw() % YARDS;
            int firm = scene.draw() % (MOST_FIRM + 1);
            if (isYard(yard)) {
                scene.firm[yard] = firm;
            }
        }
        return scene.firmInAll();
    }

    // ---- efforts

    public int effort(int slot, int kind) {
        if (!isSlot(slot) || kind < NOTHING || kind >= KINDS) {
            return finding(BEYOND);
        }
        scene.slots[slot] = kind;
        return 1;
    }

    public int effortOf(int slot, int what) {
        if (!isSlot(slot) || what < 0 || what > 3) {
            return finding(BEYOND);
        }
        int kind = scene.slots[slot];
        if (kind == NOTHING) {
            return finding(NONE);
        }
        switch (what) {
            case 0: return kind;
            case 1: return lorry.minutesOf(kind);
            case 2: return workOf(kind);
            default: return lorry.drinkOf(kind);
        }
    }

    public int go(int slot) {
        if (!isSlot(slot)) {
            return finding(BEYOND);
        }
        int kind = scene.slots[slot];
        if (kind == NOTHING) {
            return finding(NONE);
        }
        int from = lorry.has[YARD];
        if (!lorry.carriesOut(kind)) {
            return finding(STATE);
        }
        return lorry.has[YARD] - from;
    }

    public int gives(int slot, int what) {
        if (!isSlot(slot) || what < 0 || what > 3) {
            return finding(BEYOND);
        }
        int kind = scene.slots[slot];
        if (kind == NOTHING) {
            return finding(NONE);
        }
        trial.become(lorry);
        if (!trial.carriesOut(kind)) {
            return finding(STATE);
        }
        switch (what) {
            case 0: return trial.since(lorry, YARD);
            case 1: return trial.since(lorry, MINUTE);
            case 2: return trial.since(lorry, DRUNK);
            default: return trial.has[SUNK];
        }
    }

    public int lasts(int slot) {
        if (!isSlot(slot)) {
            return finding(BEYOND);
        }
        int kind = scene.slots[slot];
        if (kind == NOTHING) {
            return finding(NONE);
        }
        trial.become(lorry);
        int times = 0;
        while (times < 50 && trial.carriesOut(kind)) {
            times++;
        }
        return times;
    }

    public int out(int slot) {
        if (!isSlot(slot)) {
            return finding(BEYOND);
        }
        int kind = scene.slots[slot];
        if (kind == NOTHING) {
            return finding(NONE);
        }
        int times = timesTillOut(kind, 50);
        return times < 0 ? finding(NONE) : times;
    }

    public int when(int slot) {
        if (!isSlot(slot)) {
            return finding(BEYOND);
        }
        int kind = scene.slots[slot];
        if (kind == NOTHING) {
            return finding(NONE);
        }
        int bestHour = -1;
        int bestGain = 0;
        for (int hours = 0; hours < 24; hours++) {
            trial.become(lorry);
            trial.passHours(hours);
            int hour = trial.hour();
            if (trial.carriesOut(kind)) {
                int gain = trial.since(lorry, YARD);
                if (bestHour < 0 || gain > bestGain) {
                    bestHour = hour;
                    bestGain = gain;
                }
            }
        }
        return bestHour < 0 ? finding(NONE) : bestHour;
    }

    // ---- plans

    public int feed(int bytes, int n) {
        if (n < 1 || n > 4) {
            return finding(BEYOND);
        }
        if (tape.length + n > TAPE_ROOM) {
            return finding(FULL);
        }
        for (int i = n - 1; i >= 0; i--) {
            tape.append((bytes >>> (8 * i)) & 255);
        }
        return tape.length;
    }

    public int wipe() {
        int had = tape.length;
        tape.length = 0;
        return had;
    }

    public int text() {
        draft.become(scene);
        int fault = tape.readInto(draft);
        tape.length = 0;
        if (fault >= 0) {
            return -1 - fault;
        }
        scene.become(draft);
        return scene.planned;
    }

    public int planOf(int i) {
        if (i < 0 || i >= scene.planned || i >= PLAN_ROOM) {
            return finding(BEYOND);
        }
        return scene.plan[i];
    }

    public int clear() {
        int had = scene.planned;
        scene.planned = 0;
        return had;
    }

    public int follow() {
        return scene.planDoneBy(lorry);
    }

    public int plans(int what) {
        if (what < 0 || what > 3) {
            return finding(BEYOND);
        }
        trial.become(lorry);
        int done = scene.planDoneBy(trial);
        switch (what) {
            case 0: return done;
            case 1: return trial.since(lorry, YARD);
            case 2: return trial.since(lorry, DRUNK);
            default: return trial.since(lorry, MINUTE);
        }
    }

    public int best(int n, int what) {
        if (n < 1 || n > LONGEST_ROW || what < 0 || what > 2) {
            return finding(BEYOND);
        }
        search.begin(lorry);
        Search.tryRows(search, 0, n, 0);
        if (!search.isFound) {
            return finding(NONE);
        }
        switch (what) {
            case 0: return search.gain;
            case 1: return search.drunk;
            default: return search.digits;
        }
    }

    // ---- what must be

    public int airFor(int yard) {
        if (!isYard(yard)) {
            return finding(BEYOND);
        }
        for (int air = 0; air <= MOST_AIR; air++) {
            if (lorry.gripOf(scene.firm[yard], air) >= lorry.weight()) {
                return air;
            }
        }
        return finding(NONE);
    }

    public int sacksFor(int yard) {
        if (!isYard(yard)) {
            return finding(BEYOND);
        }
        int grip = lorry.gripOf(scene.firm[yard], lorry.has[AIR]);
        for (int sacks = MOST_SACKS; sacks >= 0; sacks--) {
            if (grip >= weightOf(sacks, 0)) {
                return sacks;
            }
        }
        return finding(NONE);
    }

    public int waterFor() {
        trial.become(lorry);
        // Water only says whether an effort can be done, so what is drunk of the most is the least that does.
        trial.has[WATER] = MOST_WATER;
        if (scene.planDoneBy(trial) < scene.planned) {
            return finding(NONE);
        }
        return trial.since(lorry, DRUNK);
    }

    public int boardsFor(int n) {
        if (n < 1 || n > 9) {
            return finding(BEYOND);
        }
        for (int boards = 0; boards <= MOST_BOARDS; boards++) {
            trial.become(lorry);
            trial.has[BOARDS] = boards;
            if (trial.carriesOut(BOARDED) && trial.since(lorry, YARD) >= n) {
                return boards;
            }
        }
        return finding(NONE);
    }

    public int way() {
        int on = timesTillOut(EFFORT, 20);
        int back = timesTillOut(BACKED, 20);
        if (on < 0 && back < 0) {
            return 0;
        }
        return back < 0 || (on >= 0 && on <= back) ? 1 : -1;
    }

    public int odds(int n) {
        if (n < 1 || n > 20) {
            return finding(BEYOND);
        }
        if (lorry.isOut()) {
            return finding(STATE);
        }
        int often = 0;
        for (int i = 0; i < n; i++) {
            int firm = scene.draw() % (MOST_FIRM + 1);
            if (lorry.gripOf(firm, lorry.has[AIR]) >= lorry.weight()) {
                often++;
            }
        }
        return often;
    }

    public int seed(int v) {
        int was = scene.z;
        scene.z = v;
        return was;
    }

    // ---- spots, sheets

    public int hold(int spot, int slot) {
        if (!isSpot(spot) || (slot != NOTHING && !isSlot(slot))) {
            return finding(BEYOND);
        }
        scene.spots[spot] = slot;
        return 1;
    }

    public int as(int spot, int kind) {
        if (!isSpot(spot) || kind < 0 || kind >= KINDS) {
            return finding(BEYOND);
        }
        int slot = scene.spots[spot];
        if (!isSlot(slot) || scene.slots[slot] == NOTHING) {
            return finding(MISSING);
        }
        return isOfKind(scene.slots[slot], kind) ? slot : finding(KIND);
    }

    public int sheet(int s, int bits, int n) {
        if (!isSheet(s) || (bits != 0 && bits != 8 && bits != 16 && bits != 32)) {
            return finding(BEYOND);
        }
        if (n < 0) {
            return finding(SIZE);
        }
        if (n > SHEET_ROOM) {
            return finding(BEYOND);
        }
        sheets[s].renew(bits, n);
        return sheets[s].size;
    }

    public int write(int s, int i, int v) {
        if (!isSheet(s)) {
            return finding(BEYOND);
        }
        Sheet sheet = sheets[s];
        if (sheet.isMissing()) {
            return finding(MISSING);
        }
        if (!sheet.hasAll(i, 1)) {
            return finding(BEYOND);
        }
        sheet.numbers[i] = sheet.fitted(v);
        return 1;
    }

    public int copy(int s, int from, int t, int to, int n) {
        if (!isSheet(s) || !isSheet(t)) {
            return finding(BEYOND);
        }
        Sheet source = sheets[s];
        Sheet target = sheets[t];
        if (source.isMissing() || target.isMissing()) {
            return finding(MISSING);
        }
        if (source.bits != target.bits) {
            return finding(KIND);
        }
        if (!source.hasAll(from, n) || !target.hasAll(to, n)) {
            return finding(BEYOND);
        }
        System.arraycopy(source.numbers, from, target.numbers, to, n);
        return n;
    }

    public int load(int s, int yard) {
        if (!isSheet(s)) {
            return finding(BEYOND);
        }
        Sheet sheet = sheets[s];
        if (sheet.isMissing()) {
            return finding(MISSING);
        }
        if (!isYard(yard)) {
            return finding(BEYOND);
        }
        int room = Math.min(sheet.size, YARDS - yard);
        int came = 0;
        while (came < room && sheet.numbers[came] >= 0 && sheet.numbers[came] <= MOST_FIRM) {
            scene.firm[yard + came] = sheet.numbers[came];
            came++;
        }
        return came;
    }

    public int judge(int s) {
        if (!isSheet(s)) {
            return finding(BEYOND);
        }
        Sheet sheet = sheets[s];
        if (sheet.isMissing()) {
            return finding(MISSING);
        }
        trial.become(lorry);
        for (int i = 0; i < sheet.size; i++) {
            if (!scene.isStepDoneBy(trial, i) || trial.has[YARD] != sheet.numbers[i]) {
                return 1 + i;
            }
        }
        return 0;
    }

    // ---- images

    public int image() {
        kept.become(scene);
        isKept = true;
        return 1;
    }

    public int undo() {
        if (!isKept) {
            return finding(NONE);
        }
        scene.become(kept);
        return lorry.has[MINUTE];
    }

    public int tear() {
        int was = isKept ? 1 : 0;
        isKept = false;
        return was;
    }

    public int count(int what) {
        switch (what) {
            case 0: return scene.planned;
            case 1: return filledOf(scene.slots);
            case 2: return filledOf(scene.spots);
            case 3: return tape.length;
            case 4: return scene.z;
            case 5: return scene.firmInAll();
            default: return finding(BEYOND);
        }
    }

    public int status(int which) {
        if (which < -1 || which >= FINDINGS) {
            return finding(BEYOND);
        }
        if (which >= 0) {
            return findings[which];
        }
        int all = 0;
        for (int i = 0; i < FINDINGS; i++) {
            all += findings[i];
        }
        return all;
    }

    // ---- what the calls share

    private int finding(int which) {
        if (which >= 0 && which < FINDINGS) {
            findings[which]++;
        }
        return LOW - which;
    }

    /** Behind how many efforts of a kind the lorry would be out, or -1 if it would not be. */
    private int timesTillOut(int kind, int most) {
        trial.become(lorry);
        int times = 0;
        while (times < most && trial.carriesOut(kind)) {
            times++;
        }
        return trial.isOut() ? times : -1;
    }

    private static int filledOf(int[] row) {
        int filled = 0;
        for (int i = 0; i < row.length; i++) {
            if (row[i] != NOTHING) {
                filled++;
            }
        }
        return filled;
    }

    private static boolean isYard(int yard) {
        return yard >= 0 && yard < YARDS;
    }

    private static boolean isSlot(int slot) {
        return slot >= 0 && slot < SLOTS;
    }

    private static boolean isSpot(int spot) {
        return spot >= 0 && spot < SPOTS;
    }

    private static boolean isSheet(int s) {
        return s >= 0 && s < SHEETS;
    }

    private static int leastOf(int number) {
        return number == PEOPLE ? 1 : 0;
    }

    private static int mostOf(int number) {
        switch (number) {
            case YARD: return YARDS - 1;
            case SUNK: return MOST_SUNK;
            case SACKS: return MOST_SACKS;
            case AIR: return MOST_AIR;
            case BOARDS: return MOST_BOARDS;
            case PEOPLE: return MOST_PEOPLE;
            default: return MOST_WATER;
        }
    }

    private static int weightOf(int sacks, int sunk) {
        return 20 + sacks / 2 + sunk;
    }

    private static int kindAbove(int kind) {
        switch (kind) {
            case BOARDED: return DUG;
            case DRAWN: return BOARDED;
            default: return EFFORT;
        }
    }

    private static boolean isOfKind(int kind, int wanted) {
        int at = kind;
        for (int level = 0; level < KINDS && at != wanted && at != EFFORT; level++) {
            at = kindAbove(at);
        }
        return at == wanted;
    }

    private static int workOf(int kind) {
        switch (kind) {
            case DUG: return 3;
            case BOARDED: return 3;
            case DRAWN: return 4;
            case LIGHTENED: return 2;
            default: return 0;
        }
    }

    /** The lorry's numbers, and the sand, which it shares with those that are tried ahead of it. */
    private static final class Lorry {
        final int[] firm;
        final int[] has = {20, 0, 20, 0, 2, 4, 900, 0, 0, 0};

        Lorry(int[] firm) {
            this.firm = firm;
        }

        void become(Lorry other) {
            System.arraycopy(other.has, 0, has, 0, NUMBERS);
        }

        int since(Lorry earlier, int number) {
            return number >= 0 && number < NUMBERS ? has[number] - earlier.has[number] : 0;
        }

        boolean isOut() {
            return !isYard(has[YARD]);
        }

        int hour() {
            return (14 + has[MINUTE] / 60) % 24;
        }

        int heat() {
            int hour = hour();
            if (hour >= 10 && hour <= 16) {
                return 3;
            }
            return hour >= 20 || hour <= 5 ? 1 : 2;
        }

        int weight() {
            return weightOf(has[SACKS], has[SUNK]);
        }

        int gripOf(int firmness, int air) {
            int hour = hour();
            int crust = hour >= 4 && hour <= 7 ? 20 : 0;
            return firmness + 3 * air + crust;
        }

        int minutesOf(int kind) {
            switch (kind) {
                case DUG: return 30;
                case BOARDED: return 45;
                case DRAWN: return 105;
                case LIGHTENED: return 40;
                case LETDOWN: return 10;
                // MINUTE 0 is ten hours behind HOUR 4.
                case WAITED: return DAY - (600 + has[MINUTE]) % DAY;
                default: return 1;
            }
        }

        int drinkOf(int kind) {
            return has[PEOPLE] * (workOf(kind) + 1) * heat() * minutesOf(kind) / 60;
        }

        void passHours(int hours) {
            // "That of now as it is": without waiting, the minutes of the hour stay.
            if (hours > 0) {
                has[MINUTE] = (has[MINUTE] / 60 + hours) * 60;
            }
        }

        /** Does an effort of a kind; tells false, and does nothing, if it can't be done. */
        boolean carriesOut(int kind) {
            int litres = drinkOf(kind);
            if (isOut() || has[WATER] < litres) {
                return false;
            }
            has[MINUTE] += minutesOf(kind);
            has[WATER] -= litres;
            has[DRUNK] += litres;
            if (isOfKind(kind, DUG)) {
                has[SUNK] = Math.max(0, has[SUNK] - 10 * has[PEOPLE]);
            }
            if (kind == LIGHTENED) {
                has[SACKS] = Math.max(0, has[SACKS] - 10);
            }
            if (kind == LETDOWN) {
                has[AIR] = Math.min(MOST_AIR, has[AIR] + 3);
            }
            if (kind != WAITED) {
                drive(kind);
            }
            return true;
        }

        private void drive(int kind) {
            int boards = isOfKind(kind, BOARDED) ? has[BOARDS] : 0;
            // Without boards no yard is boarded, none of those either to which a lorry goes back.
            int boardedTo = boards > 0 ? has[YARD] + boards : 0;
            int lighter = kind == DRAWN ? 15 : 0;
            int step = kind == BACKED ? -1 : 1;
            int most = Math.max(3, boards + 1);
            boolean goes = true;
            for (int i = 0; i < most && goes; i++) {
                goes = push(step, boardedTo, lighter);
            }
        }

        private boolean push(int step, int boardedTo, int lighter) {
            int yard = has[YARD];
            if (!isYard(yard)) {
                return false;
            }
            has[PUSHES]++;
            int grip = gripOf(firm[yard], has[AIR]) + (yard < boardedTo ? 30 : 0);
            if (grip < weight() - lighter) {
                has[SUNK] = Math.min(MOST_SUNK, has[SUNK] + 4);
                return false;
            }
            has[YARD] = yard + step;
            has[SUNK] = 0;
            return true;
        }
    }

    /** All that an image keeps. */
    private static final class Scene {
        final Lorry lorry = new Lorry(new int[YARDS]);
        final int[] firm = lorry.firm;
        final int[] slots = new int[SLOTS];
        final int[] spots = new int[SPOTS];
        final int[] plan = new int[PLAN_ROOM];
        int planned;
        int z = 1;

        Scene() {
            Arrays.fill(firm, FIRST_FIRM);
            Arrays.fill(slots, NOTHING);
            Arrays.fill(spots, NOTHING);
        }

        void become(Scene other) {
            System.arraycopy(other.firm, 0, firm, 0, YARDS);
            lorry.become(other.lorry);
            System.arraycopy(other.slots, 0, slots, 0, SLOTS);
            System.arraycopy(other.spots, 0, spots, 0, SPOTS);
            System.arraycopy(other.plan, 0, plan, 0, PLAN_ROOM);
            planned = other.planned;
            z = other.z;
        }

        int draw() {
            z = z * 1103515245 + 12345;
            return z >>> 8;
        }

        int firmInAll() {
            int sum = 0;
            for (int yard = 0; yard < YARDS; yard++) {
                sum += firm[yard];
            }
            return sum;
        }

        boolean hasRoomFor(int times) {
            return planned + times <= PLAN_ROOM;
        }

        void addToPlan(int kind, int times) {
            for (int i = 0; i < times && planned < PLAN_ROOM; i++) {
                plan[planned] = kind;
                planned++;
            }
        }

        int planDoneBy(Lorry who) {
            int done = 0;
            while (done < PLAN_ROOM && isStepDoneBy(who, done)) {
                done++;
            }
            return done;
        }

        /** Does one of the plan; tells false if the plan has none there, or it can't be done. */
        boolean isStepDoneBy(Lorry who, int i) {
            return i >= 0 && i < planned && i < PLAN_ROOM && who.carriesOut(plan[i]);
        }
    }

    /** Tries all rows of efforts; what a row begins with is done once for all that go on from it. */
    private static final class Search {
        private final Lorry[] behind = new Lorry[LONGEST_ROW + 1];
        boolean isFound;
        int gain;
        int drunk;
        int digits;

        Search(int[] firm) {
            for (int i = 0; i <= LONGEST_ROW; i++) {
                behind[i] = new Lorry(firm);
            }
        }

        void begin(Lorry lorry) {
            behind[0].become(lorry);
            isFound = false;
        }

        private static void tryRows(Search search, int done, int n, int row) {
            if (done < 0 || done > LONGEST_ROW) {
                return;
            }
            if (done >= n) {
                search.weigh(search.behind[done], row);
                return;
            }
            for (int kind = 0; kind < KINDS && done < LONGEST_ROW; kind++) {
                Lorry next = search.behind[done + 1];
                next.become(search.behind[done]);
                if (next.carriesOut(kind)) {
                    tryRows(search, done + 1, n, row * 10 + kind);
                }
            }
        }

        // Rows come with rising digits, so one that is no better than an earlier one loses to it.
        private void weigh(Lorry last, int row) {
            int rowGain = last.since(behind[0], YARD);
            int rowDrunk = last.since(behind[0], DRUNK);
            if (!isFound || rowGain > gain || (rowGain == gain && rowDrunk < drunk)) {
                isFound = true;
                gain = rowGain;
                drunk = rowDrunk;
                digits = row;
            }
        }
    }

    /** A row of numbers of some bits; without bits it is missing. */
    private static final class Sheet {
        final int[] numbers = new int[SHEET_ROOM];
        int bits;
        int size;

        boolean isMissing() {
            return bits == 0;
        }

        void renew(int newBits, int n) {
            Arrays.fill(numbers, 0);
            bits = newBits;
            size = isMissing() ? 0 : n;
        }

        boolean hasAll(int first, int n) {
            // first + n could wrap; size less n can't.
            return first >= 0 && n >= 0 && first <= size - n;
        }

        int fitted(int v) {
            switch (bits) {
                case 8: return (byte) v;
                case 16: return (short) v;
                default: return v;
            }
        }
    }

    /** The tape, and what reads it token by token as a text. */
    private static final class Tape {
        private static final int END = 0;
        private static final int WORD = 1;
        private static final int NUMBER = 2;
        private static final int SEMICOLON = 3;
        private static final int OTHER = 4;

        private static final int SAND_WORD = 8;
        private static final int WORDS = 14;
        private static final int TOO_MUCH = 10000;

        private final int[] bytes = new int[TAPE_ROOM];
        int length;
        private int token;
        private int start;
        private int end;
        private int value;

        void append(int b) {
            if (length >= 0 && length < TAPE_ROOM) {
                bytes[length] = b;
                length++;
            }
        }

        /** Answers the FAULT, or -1 if there is none. */
        int readInto(Scene draft) {
            end = 0;
            // Each item has a byte of its own at least, so the tape's length bounds them.
            for (int item = 0; item <= TAPE_ROOM; item++) {
                step();
                if (!readItem(draft)) {
                    return start;
                }
                if (token == END) {
                    return -1;
                }
                if (token != SEMICOLON) {
                    return start;
                }
            }
            return start;
        }

        /** Reads up to the token behind an item; tells false at a token that can't stand where it does. */
        private boolean readItem(Scene draft) {
            int word = token == WORD ? wordRead() : -1;
            if (word < 0) {
                return false;
            }
            if (word < KINDS) {
                return readEfforts(draft, word);
            }
            if (word == SAND_WORD) {
                return readSand(draft);
            }
            return readNumber(draft, word - SAND_WORD + 1);
        }

        private boolean readEfforts(Scene draft, int kind) {
            if (!draft.hasRoomFor(1)) {
                return false;
            }
            step();
            int times = 1;
            if (token == NUMBER) {
                times = value;
                if (times < 1 || times > 9 || !draft.hasRoomFor(times)) {
                    return false;
                }
                step();
            }
            draft.addToPlan(kind, times);
            return true;
        }

        private boolean readSand(Scene draft) {
            step();
            if (token != NUMBER || !isYard(value)) {
                return false;
            }
            int first = value;
            step();
            if (token != NUMBER) {
                return false;
            }
            for (int yard = first; yard < YARDS && token == NUMBER; yard++) {
                if (value > MOST_FIRM) {
                    return false;
                }
                draft.firm[yard] = value;
                step();
            }
            return token != NUMBER;
        }

        private boolean readNumber(Scene draft, int number) {
            step();
            if (number < SACKS || number > WATER || token != NUMBER) {
                return false;
            }
            if (value < leastOf(number) || value > mostOf(number)) {
                return false;
            }
            draft.lorry.has[number] = value;
            step();
            return true;
        }

        private void step() {
            start = endOfRun(end, ' ', ' ');
            end = start;
            if (start >= length || start >= TAPE_ROOM) {
                token = END;
                return;
            }
            int b = bytes[start];
            if (b >= 'a' && b <= 'z') {
                token = WORD;
                end = endOfRun(start, 'a', 'z');
            } else if (b >= '0' && b <= '9') {
                token = NUMBER;
                end = endOfRun(start, '0', '9');
                value = numberRead();
            } else {
                token = b == ';' ? SEMICOLON : OTHER;
                end = start + 1;
            }
        }

        private int endOfRun(int from, int least, int most) {
            int at = Math.max(0, from);
            while (at < length && at < TAPE_ROOM && bytes[at] >= least && bytes[at] <= most) {
                at++;
            }
            return at;
        }

        private int numberRead() {
            int number = 0;
            for (int i = start; i < end; i++) {
                // Digits enough would wrap to a number that may stand.
                number = Math.min(TOO_MUCH, number * 10 + bytes[i] - '0');
            }
            return number;
        }

        private int wordRead() {
            for (int word = 0; word < WORDS; word++) {
                if (spells(wordOf(word))) {
                    return word;
                }
            }
            return -1;
        }

        private boolean spells(String word) {
            if (word.length() != end - start) {
                return false;
            }
            for (int i = 0; i < word.length(); i++) {
                if (bytes[start + i] != word.charAt(i)) {
                    return false;
                }
            }
            return true;
        }

        // The kinds by their numbers, then sand, then the lorry's numbers from SACKS on.
        private static String wordOf(int word) {
            switch (word) {
                case EFFORT: return "effort";
                case DUG: return "dug";
                case BOARDED: return "boarded";
                case LIGHTENED: return "lightened";
                case LETDOWN: return "letdown";
                case DRAWN: return "drawn";
                case BACKED: return "backed";
                case WAITED: return "waited";
                case SAND_WORD: return "sand";
                case 9: return "sacks";
                case 10: return "air";
                case 11: return "boards";
                case 12: return "people";
                default: return "water";
            }
        }
    }
}
