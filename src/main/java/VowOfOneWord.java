/**
 * Brothers of a rock, each with one word for life, who say what they have to by standing in order.
 * ../shared/DOC.md says what each call promises.
 */
public final class VowOfOneWord {
    public static final int NONE = -1;

    private static final int FINE = 0;
    private static final int BAD = -2;
    private static final int OTHER = -3;
    private static final int NOTHING = -4;
    private static final int STUCK = -5;
    private static final int FULL = -6;

    /** Calls that tell meanings add this to a refusal, since a meaning may be below 0 itself. */
    private static final int TELLING = -100000000;
    private static final int READING = -20;

    private static final int MOST_SHELVES = 8;
    private static final int MOST_TOLD = 9999;
    /** By how many brothers at most a thing is said in the house. */
    private static final int HOUSE = 5;
    /** How many brothers at most stand together. */
    private static final int TOGETHER = 6;

    private final Rock now = new Rock();
    private final Rock kept = new Rock();
    private final Rock trial = new Rock();
    private boolean isKept;
    private final Sayings sayings = new Sayings(TOGETHER);
    private final House house = new House();
    private final Told told = new Told();
    private final Tape tape = new Tape();
    private final Shelf[] shelves = new Shelf[MOST_SHELVES];
    private final int[] refusals = new int[5];

    public VowOfOneWord() {
        for (int s = 0; s < MOST_SHELVES; s++) {
            shelves[s] = new Shelf();
        }
    }

    // ---- shelves

    public int row(int s, int sort, int n) {
        if (!isShelf(s) || !Shelf.isSort(sort) || n < 0 || n > Shelf.MOST) {
            return refuse(BAD);
        }
        shelves[s].holdRow(sort, n);
        return 1;
    }

    public int set(int s, int i, long v) {
        int trouble = rowTrouble(s);
        if (trouble == FINE && !shelves[s].spans(i, 1)) {
            trouble = BAD;
        }
        if (trouble != FINE) {
            return refuse(trouble);
        }
        shelves[s].put(i, v);
        return 1;
    }

    public int copy(int p, int q, int i, int j, int n) {
        int trouble = copyTrouble(p, q);
        if (trouble == FINE && !(shelves[p].spans(i, n) && shelves[q].spans(j, n))) {
            trouble = BAD;
        }
        if (trouble != FINE) {
            return refuse(trouble);
        }
        System.arraycopy(shelves[p].elements, i, shelves[q].elements, j, n);
        return n;
    }

    public long element(int s, int i) {
        if (rowTrouble(s) != FINE || !shelves[s].spans(i, 1)) {
            return 0;
        }
        return shelves[s].elements[i];
    }

    public int holds(int s) {
        return isShelf(s) ? shelves[s].thing : NONE;
    }

    public int show(int s, int brother) {
        if (!isShelf(s) || (brother != NONE && !now.has(brother))) {
            return refuse(BAD);
        }
        shelves[s].hold(brother == NONE ? NONE : Shelf.BROTHER + brother);
        return 1;
    }

    public int says(int s, int kind) {
        if (!isShelf(s) || !Grammar.isKind(kind)) {
            return refuse(BAD);
        }
        Shelf shelf = shelves[s];
        if (shelf.isEmpty()) {
            return refuse(NOTHING);
        }
        int b = shelf.thing - Shelf.BROTHER;
        if (!now.has(b) || !Grammar.isUnder(now.kinds[b], kind)) {
            return refuse(OTHER);
        }
        // What he is taken for decides what is asked of him; how many are of his kind goes by his own.
        return kind == Grammar.WORD ? now.amounts[b] : now.livingOfKind(now.kinds[b]);
    }

    // ---- the rock

    public int brother(int kind, int a, int cell) {
        if (!Grammar.isKind(kind) || !Rock.isAmount(a) || !Rock.isCell(cell)) {
            return refuse(BAD);
        }
        return now.hasRoom() ? now.addBrother(kind, a, cell) : refuse(FULL);
    }

    public int feud(int brother, int other, boolean is) {
        if (!now.has(brother) || !now.has(other) || brother == other) {
            return refuse(BAD);
        }
        int did = now.feuding(brother, other) ? 1 : 0;
        now.setFeud(brother, other, is);
        return did;
    }

    public int need(int meaning) {
        if (meaning < -Rock.MOST_NEED || meaning > Rock.MOST_NEED) {
            return refuse(BAD);
        }
        return now.hasNeedRoom() ? now.addNeed(meaning) : refuse(FULL);
    }

    public int age(int brother, int v) {
        if (!now.has(brother) || !Rock.isAge(v)) {
            return refuse(BAD);
        }
        int ahead = now.ages[brother];
        now.ages[brother] = v;
        return ahead;
    }

    public int goes(int brother, int cell) {
        if (!now.has(brother) || !Rock.isCell(cell)) {
            return refuse(BAD);
        }
        int ahead = now.cells[brother];
        now.cells[brother] = cell;
        return ahead;
    }

    public int dies(int brother) {
        int trouble = livingTrouble(brother);
        if (trouble != FINE) {
            return refuse(trouble);
        }
        now.bury(brother);
        return Integer.bitCount(now.living);
    }

    public int feed(int letter) {
        if (letter < 0 || letter > 255) {
            return refuse(BAD);
        }
        return tape.hasRoom() ? tape.add(letter) : refuse(FULL);
    }

    public int wipe() {
        return tape.clear();
    }

    public int rock() {
        trial.takeFrom(now);
        int statements = tape.read(trial);
        tape.clear();
        if (tape.fault != NONE) {
            refuse(BAD);
            return READING - tape.fault;
        }
        now.takeFrom(trial);
        return statements;
    }

    public int brotherOf(int brother, int what) {
        if (!now.has(brother)) {
            return refuse(BAD);
        }
        switch (what) {
            case 0: return now.kinds[brother];
            case 1: return now.amounts[brother];
            case 2: return now.cells[brother];
            case 3: return now.ages[brother];
            case 4: return now.feuds[brother];
            case 5: return now.isLiving(brother) ? 1 : 0;
            default: return refuse(BAD);
        }
    }

    public int needOf(int need) {
        return now.hasNeed(need) ? now.needs[need] : TELLING + refuse(BAD);
    }

    // ---- what comes of it

    public int shortest(int meaning, int n, boolean calm, int i) {
        if (!isTold(meaning) || n < 1 || n > TOGETHER || i < NONE) {
            return refuse(BAD);
        }
        Sayings all = sayingsNow();
        int found = all.find(now, meaning, n, calm);
        int length = found == NONE ? NONE : all.lengthOf(found);
        if (i == NONE) {
            return length;
        }
        return i < length ? Line.at(all.rowOf(found), i) : refuse(STUCK);
    }

    public int said(int n, int what) {
        if (n < 1 || n > HOUSE || what < 0 || what > 2) {
            return TELLING + refuse(BAD);
        }
        Sayings all = sayingsNow();
        if (what == 0) {
            return all.unlike(n);
        }
        if (all.upTo(n) == 0) {
            return TELLING + refuse(STUCK);
        }
        return what == 1 ? all.least(n) : all.greatest(n);
    }

    public int many(int n, int what) {
        if (n < 1 || n > TOGETHER || what < 0 || what > 1) {
            return refuse(BAD);
        }
        Sayings all = sayingsNow();
        return what == 0 ? all.upTo(n) - all.upTo(n - 1) : all.calm(now, n);
    }

    public int who(int what) {
        if (what < 0 || what > 2) {
            return refuse(BAD);
        }
        Sayings all = sayingsNow();
        if (what == 0) {
            return all.beginners(HOUSE);
        }
        return what == 1 ? all.enders(HOUSE) : now.living & ~all.standing(HOUSE);
    }

    public int nearest(int meaning) {
        if (!isTold(meaning)) {
            return TELLING + refuse(BAD);
        }
        Sayings all = sayingsNow();
        return all.upTo(HOUSE) == 0 ? TELLING + refuse(STUCK) : all.closest(HOUSE, meaning);
    }

    public int first(int what) {
        if (what < 0 || what > 2) {
            return refuse(BAD);
        }
        return now.living == 0 ? refuse(STUCK) : now.foremost(what);
    }

    public int crowd() {
        return now.fullestCell();
    }

    public int gather() {
        return now.middleCell();
    }

    public int alone() {
        int alone = 0;
        for (int b = 0; b < now.brothers; b++) {
            if (now.isLiving(b) && (now.feuds[b] & now.living) == 0) {
                alone |= 1 << b;
            }
        }
        return alone;
    }

    public int lasting() {
        return now.chanceOfYear();
    }

    public int longest(int what) {
        if (what < 0 || what > 1) {
            return refuse(BAD);
        }
        return sayingsNow().most(now, what == 1);
    }

    // ---- needs of the house

    public int met() {
        return house.metWithout(now, sayingsNow(), 0);
    }

    public int without(int brother, int what) {
        int trouble = what < 0 || what > 1 ? BAD : livingTrouble(brother);
        if (trouble != FINE) {
            return refuse(trouble);
        }
        int missed = house.missed(now, sayingsNow(), brother);
        return what == 0 ? missed : Integer.bitCount(missed);
    }

    public int mightiest() {
        return now.living == 0 ? refuse(STUCK) : house.mostMissed(now, sayingsNow());
    }

    public int choice(int what) {
        if (what < 0 || what > 1) {
            return refuse(BAD);
        }
        if (!now.hasRoom()) {
            return refuse(FULL);
        }
        house.choose(now, sayingsNow(), trial);
        return what == 0 ? house.chosen : house.chosenMet;
    }

    public int lost(int need, int i) {
        if (!now.hasNeed(need) || i < NONE) {
            return refuse(BAD);
        }
        int set = house.fewestToMiss(now, sayingsNow(), now.needs[need]);
        int size = set == NONE ? NONE : Integer.bitCount(set);
        if (i == NONE) {
            return size;
        }
        return i < size ? memberOf(set, i) : refuse(STUCK);
    }

    // ---- what was meant by those who ran by

    public int ran(int set, int what) {
        if (!canRun(set) || what < 0 || what > 2) {
            return refuse(BAD);
        }
        Sayings all = sayingsNow();
        if (what == 0) {
            return all.countOf(set);
        }
        if (what == 1) {
            return all.unlikeOf(set);
        }
        int found = all.firstOf(set);
        return found == NONE ? NONE : Line.at(all.rowOf(found), 0);
    }

    public int meant(int set, int meaning) {
        if (!canRun(set) || !isTold(meaning)) {
            return refuse(BAD);
        }
        return sayingsNow().mayMean(set, meaning) ? 1 : 0;
    }

    // ---- told sayings

    public int judge(int s, int n) {
        int trouble = toldTrouble(s, n);
        if (trouble != FINE) {
            return refuse(trouble);
        }
        told.hear(now, shelves[s], n);
        return told.wrong;
    }

    public int means(int s, int n) {
        int trouble = wrongTrouble(s, n);
        if (trouble != FINE) {
            return TELLING + refuse(trouble);
        }
        return Line.meaning(now, told.row, n);
    }

    public int stands(int s, int n, int what) {
        int trouble = what < 0 || what > 2 ? BAD : wrongTrouble(s, n);
        if (trouble == FINE && what != 2 && n > TOGETHER) {
            trouble = STUCK;
        }
        if (trouble != FINE) {
            return refuse(trouble);
        }
        if (what == 2) {
            return Line.feuds(now, told.row, n);
        }
        int column = Line.bestColumn(now, told.row, n);
        return what == 1 ? column : Line.soon(now, told.row, n, column);
    }

    public int done(int s, int n) {
        int trouble = wrongTrouble(s, n);
        if (trouble == FINE && n > TOGETHER) {
            trouble = STUCK;
        }
        if (trouble != FINE) {
            return refuse(trouble);
        }
        Line.stand(now, told.row, n, Line.bestColumn(now, told.row, n));
        now.said++;
        return now.said;
    }

    public int peace(int n) {
        if (n < 3 || n > HOUSE) {
            return refuse(BAD);
        }
        return house.bestPeace(now, sayingsNow(), n);
    }

    // ---- in truth

    public int years(int n) {
        if (n < 1 || n > 50) {
            return refuse(BAD);
        }
        int lived = Integer.bitCount(now.living);
        for (int year = 0; year < n; year++) {
            now.passYear();
        }
        return lived - Integer.bitCount(now.living);
    }

    public int seed(int v) {
        int ahead = now.seed;
        now.seed = v;
        return ahead;
    }

    public int image() {
        kept.takeFrom(now);
        isKept = true;
        return 1;
    }

    public int back() {
        if (!isKept) {
            return refuse(STUCK);
        }
        now.takeFrom(kept);
        for (int s = 0; s < MOST_SHELVES; s++) {
            if (shelves[s].thing >= Shelf.BROTHER + now.brothers) {
                shelves[s].hold(NONE);
            }
        }
        return 1;
    }

    public int status(int what) {
        switch (what) {
            case 0: return now.brothers;
            case 1: return Integer.bitCount(now.living);
            case 2: return now.needCount;
            case 3: return now.pairsFeuding();
            case 4: return now.said;
            case 5: return now.agesTogether();
            case 6: return tape.size;
            case 7: return now.seed;
            case 8: return shelvesHolding();
            default: return what >= 12 && what <= 16 ? refusals[what - 12] : NONE;
        }
    }

    // ---- what calls share

    private int refuse(int number) {
        int place = BAD - number;
        if (place >= 0 && place < refusals.length) {
            refusals[place]++;
        }
        return number;
    }

    private Sayings sayingsNow() {
        sayings.update(now);
        return sayings;
    }

    private static boolean isShelf(int s) {
        return s >= 0 && s < MOST_SHELVES;
    }

    private static boolean isTold(int meaning) {
        return meaning >= -MOST_TOLD && meaning <= MOST_TOLD;
    }

    private boolean canRun(int set) {
        return (set & ~now.living) == 0 && Integer.bitCount(set) <= TOGETHER;
    }

    private int livingTrouble(int brother) {
        if (!now.has(brother)) {
            return BAD;
        }
        return now.isLiving(brother) ? FINE : STUCK;
    }

    private int rowTrouble(int s) {
        if (!isShelf(s)) {
            return BAD;
        }
        if (shelves[s].isEmpty()) {
            return NOTHING;
        }
        return shelves[s].isRow() ? FINE : OTHER;
    }

    private int copyTrouble(int p, int q) {
        int from = rowTrouble(p);
        int to = rowTrouble(q);
        if (from == BAD || to == BAD) {
            return BAD;
        }
        if (from == OTHER || to == OTHER) {
            return OTHER;
        }
        if (from == NOTHING || to == NOTHING) {
            return NOTHING;
        }
        return shelves[p].thing == shelves[q].thing ? FINE : OTHER;
    }

    private int toldTrouble(int s, int n) {
        if (n < 0 || n > Shelf.MOST) {
            return BAD;
        }
        int trouble = rowTrouble(s);
        return trouble == FINE && shelves[s].length < n ? BAD : trouble;
    }

    /** Leaves the saying in told if it is not wrong. */
    private int wrongTrouble(int s, int n) {
        int trouble = toldTrouble(s, n);
        if (trouble == FINE) {
            told.hear(now, shelves[s], n);
            trouble = told.wrong == NONE ? FINE : STUCK;
        }
        return trouble;
    }

    private int shelvesHolding() {
        int holding = 0;
        for (int s = 0; s < MOST_SHELVES; s++) {
            holding += shelves[s].isEmpty() ? 0 : 1;
        }
        return holding;
    }

    private static int memberOf(int set, int i) {
        int left = i;
        for (int b = 0; b < Rock.MOST_BROTHERS; b++) {
            if ((set >> b & 1) != 0) {
                if (left == 0) {
                    return b;
                }
                left--;
            }
        }
        return NONE;
    }

    /** Which word may stand where: a saying is heard word by word, each taking one place to the next. */
    private static final class Grammar {
        static final int WORD = 0;
        static final int NAME = 1;
        static final int DEED = 2;
        static final int MANY = 3;
        static final int NOT = 4;
        static final int AND = 5;

        static final int START = 0;

        private static final int KINDS = 6;
        private static final int PLACES = 7;
        // START, MANY heard, first THING heard, NOT heard, DOING heard, second MANY heard, second THING heard.
        private static final int[] NEXT = {
            -1, 2, -1, 1, -1, -1,
            -1, 2, -1, -1, -1, -1,
            -1, -1, 4, -1, 3, -1,
            -1, -1, 4, -1, -1, -1,
            -1, 6, -1, 5, -1, 0,
            -1, 6, -1, -1, -1, -1,
            -1, -1, -1, -1, -1, 0,
        };
        // How many words a saying wants there yet, at the fewest.
        private static final int[] WANTS = {2, 2, 1, 1, 0, 1, 0};

        static boolean isKind(int kind) {
            return kind >= 0 && kind < KINDS;
        }

        static boolean isUnder(int kind, int top) {
            return kind == top || top == WORD || (top == NAME && kind == MANY) || (top == DEED && kind == NOT);
        }

        static int next(int place, int kind) {
            if (place < 0 || place >= PLACES || !isKind(kind)) {
                return NONE;
            }
            return NEXT[place * KINDS + kind];
        }

        static int wants(int place) {
            return place >= 0 && place < PLACES ? WANTS[place] : WANTS[START];
        }

        static boolean mayEnd(int place) {
            return wants(place) == 0;
        }
    }

    /** All that is kept by an image: brothers, needs, sayings said, the seed. */
    private static final class Rock {
        static final int MOST_BROTHERS = 10;
        static final int MOST_NEEDS = 8;
        static final int MOST_NEED = 999;
        static final int MOST_AGE = 99;
        static final int SIDE = 6;

        // A packed row names a brother by four bits, so whatever it names has a place here.
        private static final int ROOM = 16;

        int brothers;
        int living;
        final int[] kinds = new int[ROOM];
        final int[] amounts = new int[ROOM];
        final int[] cells = new int[ROOM];
        final int[] ages = new int[ROOM];
        final int[] feuds = new int[ROOM];
        int needCount;
        final int[] needs = new int[MOST_NEEDS];
        int said;
        int seed = 1;

        static boolean isAmount(int a) {
            return a >= 0 && a <= 9;
        }

        static boolean isCell(int cell) {
            return cell >= 0 && cell / 10 < SIDE && cell % 10 < SIDE;
        }

        static boolean isAge(int v) {
            return v >= 0 && v <= MOST_AGE;
        }

        static int steps(int from, int to) {
            return Math.abs(from / 10 - to / 10) + Math.abs(from % 10 - to % 10);
        }

        void takeFrom(Rock other) {
            brothers = other.brothers;
            living = other.living;
            System.arraycopy(other.kinds, 0, kinds, 0, ROOM);
            System.arraycopy(other.amounts, 0, amounts, 0, ROOM);
            System.arraycopy(other.cells, 0, cells, 0, ROOM);
            System.arraycopy(other.ages, 0, ages, 0, ROOM);
            System.arraycopy(other.feuds, 0, feuds, 0, ROOM);
            needCount = other.needCount;
            System.arraycopy(other.needs, 0, needs, 0, MOST_NEEDS);
            said = other.said;
            seed = other.seed;
        }

        boolean has(int b) {
            return b >= 0 && b < brothers;
        }

        boolean isLiving(int b) {
            return b >= 0 && b < brothers && (living >> b & 1) != 0;
        }

        boolean hasRoom() {
            return brothers < MOST_BROTHERS;
        }

        int addBrother(int kind, int amount, int cell) {
            if (!hasRoom()) {
                return NONE;
            }
            int b = brothers;
            kinds[b] = kind;
            amounts[b] = amount;
            cells[b] = cell;
            ages[b] = 20;
            feuds[b] = 0;
            living |= 1 << b;
            brothers++;
            return b;
        }

        void bury(int b) {
            living &= ~(1 << b);
        }

        boolean feuding(int x, int y) {
            return has(x) && has(y) && (feuds[x] >> y & 1) != 0;
        }

        void setFeud(int x, int y, boolean is) {
            if (!has(x) || !has(y)) {
                return;
            }
            feuds[x] = is ? feuds[x] | 1 << y : feuds[x] & ~(1 << y);
            feuds[y] = is ? feuds[y] | 1 << x : feuds[y] & ~(1 << x);
        }

        boolean hasNeed(int need) {
            return need >= 0 && need < needCount;
        }

        boolean hasNeedRoom() {
            return needCount < MOST_NEEDS;
        }

        int addNeed(int meaning) {
            if (!hasNeedRoom()) {
                return NONE;
            }
            needs[needCount] = meaning;
            needCount++;
            return needCount - 1;
        }

        /** The needs (bits) that a meaning meets. */
        int needsOf(int meaning) {
            int bits = 0;
            for (int i = 0; i < needCount; i++) {
                if (needs[i] == meaning) {
                    bits |= 1 << i;
                }
            }
            return bits;
        }

        int livingOfKind(int kind) {
            int count = 0;
            for (int b = 0; b < brothers; b++) {
                count += isLiving(b) && kinds[b] == kind ? 1 : 0;
            }
            return count;
        }

        int pairsFeuding() {
            int ends = 0;
            for (int b = 0; b < brothers; b++) {
                ends += Integer.bitCount(feuds[b]);
            }
            return ends / 2;
        }

        int agesTogether() {
            int sum = 0;
            for (int b = 0; b < brothers; b++) {
                sum += isLiving(b) ? ages[b] : 0;
            }
            return sum;
        }

        int foremost(int what) {
            int best = NONE;
            int most = 0;
            for (int b = 0; b < brothers; b++) {
                int worth = what == 0 ? ages[b] : what == 1 ? -ages[b] : Integer.bitCount(feuds[b]);
                if (isLiving(b) && (best == NONE || worth > most)) {
                    best = b;
                    most = worth;
                }
            }
            return best;
        }

        int fullestCell() {
            int best = 0;
            int most = 0;
            for (int place = 0; place < SIDE * SIDE; place++) {
                int cell = place / SIDE * 10 + place % SIDE;
                int there = 0;
                for (int b = 0; b < brothers; b++) {
                    there += isLiving(b) && cells[b] == cell ? 1 : 0;
                }
                if (there > most) {
                    best = cell;
                    most = there;
                }
            }
            return best;
        }

        int middleCell() {
            int best = 0;
            int fewest = farthest(best);
            for (int place = 1; place < SIDE * SIDE; place++) {
                int cell = place / SIDE * 10 + place % SIDE;
                int far = farthest(cell);
                if (far < fewest) {
                    best = cell;
                    fewest = far;
                }
            }
            return best;
        }

        private int farthest(int cell) {
            int far = 0;
            for (int b = 0; b < brothers; b++) {
                if (isLiving(b)) {
                    far = Math.max(far, steps(cells[b], cell));
                }
            }
            return far;
        }

        int chanceOfYear() {
            int chance = 1000000;
            for (int b = 0; b < brothers; b++) {
                if (isLiving(b)) {
                    chance = chance * (200 - olderBy1(b)) / 200;
                }
            }
            return chance;
        }

        void passYear() {
            for (int b = 0; b < brothers; b++) {
                if (isLiving(b)) {
                    ages[b] = olderBy1(b);
                    if (draw(200) < ages[b]) {
                        bury(b);
                    }
                }
            }
        }

        private int olderBy1(int b) {
            return Math.min(ages[b] + 1, MOST_AGE);
        }

        private int draw(int n) {
            seed = seed * 1103515245 + 12345;
            return n > 0 ? (seed >>> 16) % n : 0;
        }
    }

    /** A row of brothers packed into one number, four bits each, the first lowest: rows are made by the thousand. */
    private static final class Line {
        static int at(long row, int i) {
            return (int) (row >> 4 * i) & 15;
        }

        static long with(long row, int i, int b) {
            return row | (long) b << 4 * i;
        }

        /** Holds for sayings that the grammar lets pass; of others the answer is some number. */
        static int meaning(Rock rock, long row, int n) {
            int whole = 0;
            int clause = 0;
            int times = 1;
            int sign = 1;
            for (int i = 0; i < n; i++) {
                int b = at(row, i);
                int a = rock.amounts[b];
                switch (rock.kinds[b]) {
                    case Grammar.MANY: times = a + 1; break;
                    case Grammar.NAME: clause += times * a; times = 1; break;
                    case Grammar.NOT: sign = -1; break;
                    case Grammar.DEED: clause *= a; break;
                    default: whole += sign * clause; clause = 0; sign = 1; break;
                }
            }
            return whole + sign * clause;
        }

        static int feuds(Rock rock, long row, int n) {
            int count = 0;
            for (int i = 1; i < n; i++) {
                count += rock.feuding(at(row, i - 1), at(row, i)) ? 1 : 0;
            }
            return count;
        }

        /** 10 times the lesser and the other of the only two who feud side by side; NONE: not just two do. */
        static int onlyFeud(Rock rock, long row, int n) {
            int only = NONE;
            for (int i = 1; i < n; i++) {
                int x = at(row, i - 1);
                int y = at(row, i);
                if (rock.feuding(x, y)) {
                    if (only != NONE) {
                        return NONE;
                    }
                    only = 10 * Math.min(x, y) + Math.max(x, y);
                }
            }
            return only;
        }

        static int soon(Rock rock, long row, int n, int column) {
            int most = 0;
            for (int i = 0; i < n; i++) {
                most = Math.max(most, Rock.steps(rock.cells[at(row, i)], column + i));
            }
            return most;
        }

        static int bestColumn(Rock rock, long row, int n) {
            int best = 0;
            for (int column = 1; column + n <= TOGETHER; column++) {
                if (soon(rock, row, n, column) < soon(rock, row, n, best)) {
                    best = column;
                }
            }
            return best;
        }

        static void stand(Rock rock, long row, int n, int column) {
            for (int i = 0; i < n; i++) {
                rock.cells[at(row, i)] = column + i;
            }
        }
    }

    /**
     * All sayings of some brothers at most, the shorter ahead, then by rows. They are made anew only
     * when the brothers have changed, since most calls look through all of them.
     */
    private static final class Sayings {
        // 10 brothers begin 2391 rows at most that can still become sayings of 6, 697 that can of 5.
        private static final int MOST_OF_ALL = 2400;
        private static final int MOST_OF_HOUSE = 700;
        // Sayings of 6 mean -900 to 900.
        private static final int WIDEST = 1000;
        private static final int MARKS = 32;

        // A saying lies in one number, since a new object shall be small: from which bit on each part does.
        private static final int LENGTH = 24;
        private static final int MEMBERS = 27;
        private static final int PLACE = 37;
        private static final int MEANING = 40;

        private final int longest;
        private final int room;
        private int size;
        private final long[] packed;
        // How many sayings there are of so many brothers at most.
        private final int[] upTo = new int[TOGETHER + 1];
        private final int[] madeOf = new int[Rock.MOST_BROTHERS];
        // Meanings that have come, a bit each.
        private final long[] marks = new long[MARKS];

        Sayings(int longest) {
            this.longest = Math.min(longest, TOGETHER);
            room = longest <= HOUSE ? MOST_OF_HOUSE : MOST_OF_ALL;
            packed = new long[room];
        }

        /** The i-th saying; 0, which nobody says, of none. */
        private long at(int i) {
            return i >= 0 && i < size && i < room ? packed[i] : 0;
        }

        int rowOf(int i) {
            return (int) at(i) & 0xffffff;
        }

        int lengthOf(int i) {
            return (int) (at(i) >> LENGTH) & 7;
        }

        int membersOf(int i) {
            return (int) (at(i) >> MEMBERS) & 1023;
        }

        private int placeOf(int i) {
            return (int) (at(i) >> PLACE) & 7;
        }

        int meaningOf(int i) {
            return (int) (at(i) >> MEANING) - WIDEST;
        }

        void update(Rock rock) {
            if (isMadeOf(rock)) {
                return;
            }
            for (int b = 0; b < Rock.MOST_BROTHERS; b++) {
                madeOf[b] = wordOf(rock, b);
            }
            size = 0;
            add(0, 0, 0, Grammar.START);
            for (int i = 0; i < size && i < room; i++) {
                goOn(rock, i);
            }
            keepWhole(rock);
        }

        private static int wordOf(Rock rock, int b) {
            return rock.isLiving(b) ? 1 + 10 * rock.kinds[b] + rock.amounts[b] : 0;
        }

        private boolean isMadeOf(Rock rock) {
            for (int b = 0; b < Rock.MOST_BROTHERS; b++) {
                if (madeOf[b] != wordOf(rock, b)) {
                    return false;
                }
            }
            return true;
        }

        private void add(long row, int length, int members, int place) {
            if (size < room) {
                packed[size] = row | (long) length << LENGTH | (long) members << MEMBERS | (long) place << PLACE;
                size++;
            }
        }

        /** Rows come behind by length and in order, because those that they go on from are so. */
        private void goOn(Rock rock, int i) {
            int length = lengthOf(i);
            for (int b = 0; b < rock.brothers; b++) {
                if (!rock.isLiving(b) || (membersOf(i) >> b & 1) != 0) {
                    continue;
                }
                int place = Grammar.next(placeOf(i), rock.kinds[b]);
                if (place != NONE && length + 1 + Grammar.wants(place) <= longest) {
                    add(Line.with(rowOf(i), length, b), length + 1, membersOf(i) | 1 << b, place);
                }
            }
        }

        private void keepWhole(Rock rock) {
            for (int n = 0; n <= TOGETHER; n++) {
                upTo[n] = 0;
            }
            int whole = 0;
            for (int i = 0; i < size && i < room; i++) {
                if (Grammar.mayEnd(placeOf(i))) {
                    long meaning = Line.meaning(rock, rowOf(i), lengthOf(i)) + WIDEST;
                    upTo[Math.min(lengthOf(i), TOGETHER)]++;
                    packed[whole] = packed[i] | meaning << MEANING;
                    whole++;
                }
            }
            for (int n = 1; n <= TOGETHER; n++) {
                upTo[n] += upTo[n - 1];
            }
            size = whole;
        }

        int upTo(int n) {
            return n >= 0 && n <= TOGETHER ? upTo[n] : 0;
        }

        private boolean isCalm(Rock rock, int i) {
            return Line.feuds(rock, rowOf(i), lengthOf(i)) == 0;
        }

        int find(Rock rock, int meaning, int n, boolean calm) {
            for (int i = 0; i < upTo(n); i++) {
                if (meaningOf(i) == meaning && (!calm || isCalm(rock, i))) {
                    return i;
                }
            }
            return NONE;
        }

        int calm(Rock rock, int n) {
            int count = 0;
            for (int i = upTo(n - 1); i < upTo(n); i++) {
                count += isCalm(rock, i) ? 1 : 0;
            }
            return count;
        }

        int most(Rock rock, boolean calm) {
            for (int i = upTo(longest) - 1; i >= 0; i--) {
                if (!calm || isCalm(rock, i)) {
                    return lengthOf(i);
                }
            }
            return 0;
        }

        int least(int n) {
            int least = upTo(n) > 0 ? meaningOf(0) : 0;
            for (int i = 1; i < upTo(n); i++) {
                least = Math.min(least, meaningOf(i));
            }
            return least;
        }

        int greatest(int n) {
            int greatest = upTo(n) > 0 ? meaningOf(0) : 0;
            for (int i = 1; i < upTo(n); i++) {
                greatest = Math.max(greatest, meaningOf(i));
            }
            return greatest;
        }

        int closest(int n, int meaning) {
            int best = upTo(n) > 0 ? meaningOf(0) : 0;
            for (int i = 1; i < upTo(n); i++) {
                int far = Math.abs(meaningOf(i) - meaning);
                int fewest = Math.abs(best - meaning);
                if (far < fewest || (far == fewest && meaningOf(i) < best)) {
                    best = meaningOf(i);
                }
            }
            return best;
        }

        int beginners(int n) {
            int set = 0;
            for (int i = 0; i < upTo(n); i++) {
                set |= 1 << Line.at(rowOf(i), 0);
            }
            return set;
        }

        int enders(int n) {
            int set = 0;
            for (int i = 0; i < upTo(n); i++) {
                set |= 1 << Line.at(rowOf(i), lengthOf(i) - 1);
            }
            return set;
        }

        int standing(int n) {
            int set = 0;
            for (int i = 0; i < upTo(n); i++) {
                set |= membersOf(i);
            }
            return set;
        }

        int unlike(int n) {
            forgetMarks();
            int count = 0;
            for (int i = 0; i < upTo(n); i++) {
                count += isNew(meaningOf(i)) ? 1 : 0;
            }
            return count;
        }

        private void forgetMarks() {
            for (int i = 0; i < MARKS; i++) {
                marks[i] = 0;
            }
        }

        /** Whether a meaning comes for the first time since the marks were forgotten. */
        private boolean isNew(int meaning) {
            int place = meaning + WIDEST;
            if (place < 0 || place >> 6 >= MARKS || (marks[place >> 6] >> (place & 63) & 1) != 0) {
                return false;
            }
            marks[place >> 6] |= 1L << (place & 63);
            return true;
        }

        int countOf(int set) {
            int count = 0;
            for (int i = 0; i < upTo(longest); i++) {
                count += membersOf(i) == set ? 1 : 0;
            }
            return count;
        }

        int unlikeOf(int set) {
            forgetMarks();
            int count = 0;
            for (int i = 0; i < upTo(longest); i++) {
                count += membersOf(i) == set && isNew(meaningOf(i)) ? 1 : 0;
            }
            return count;
        }

        int firstOf(int set) {
            for (int i = 0; i < upTo(longest); i++) {
                if (membersOf(i) == set) {
                    return i;
                }
            }
            return NONE;
        }

        boolean mayMean(int set, int meaning) {
            for (int i = 0; i < upTo(longest); i++) {
                if (membersOf(i) == set && meaningOf(i) == meaning) {
                    return true;
                }
            }
            return false;
        }

        /** Whether a meaning can be said by so many at most, none of them of a set. */
        boolean canMeanWithout(int meaning, int n, int set) {
            for (int i = 0; i < upTo(n); i++) {
                if (meaningOf(i) == meaning && (membersOf(i) & set) == 0) {
                    return true;
                }
            }
            return false;
        }
    }

    /** Needs of the house and what is best for it. */
    private static final class House {
        private static final int PAIRS = 100;
        private static final int AMOUNTS = 10;

        int chosen;
        int chosenMet;
        private final Sayings guesses = new Sayings(HOUSE);
        private final int[] metBy = new int[AMOUNTS];
        private final int[] gains = new int[PAIRS];

        int metWithout(Rock rock, Sayings all, int set) {
            int met = 0;
            for (int i = 0; i < rock.needCount; i++) {
                if (all.canMeanWithout(rock.needs[i], HOUSE, set)) {
                    met |= 1 << i;
                }
            }
            return met;
        }

        int missed(Rock rock, Sayings all, int b) {
            return metWithout(rock, all, 0) & ~metWithout(rock, all, 1 << b);
        }

        int mostMissed(Rock rock, Sayings all) {
            int best = NONE;
            int most = NONE;
            for (int b = 0; b < rock.brothers; b++) {
                int power = rock.isLiving(b) ? Integer.bitCount(missed(rock, all, b)) : NONE;
                if (power > most) {
                    best = b;
                    most = power;
                }
            }
            return best;
        }

        /** The set (bits) of the fewest without whom a meaning can't be said; NONE: two aren't enough. */
        int fewestToMiss(Rock rock, Sayings all, int meaning) {
            if (!all.canMeanWithout(meaning, HOUSE, 0)) {
                return 0;
            }
            for (int b = 0; b < rock.brothers; b++) {
                if (rock.isLiving(b) && !all.canMeanWithout(meaning, HOUSE, 1 << b)) {
                    return 1 << b;
                }
            }
            for (int x = 0; x < rock.brothers; x++) {
                for (int y = x + 1; y < rock.brothers; y++) {
                    int two = 1 << x | 1 << y;
                    if ((two & ~rock.living) == 0 && !all.canMeanWithout(meaning, HOUSE, two)) {
                        return two;
                    }
                }
            }
            return NONE;
        }

        void choose(Rock rock, Sayings all, Rock trial) {
            int met = metWithout(rock, all, 0);
            chosen = 0;
            chosenMet = Integer.bitCount(met);
            for (int kind = Grammar.NAME; kind <= Grammar.AND; kind++) {
                trial.takeFrom(rock);
                int b = trial.addBrother(kind, 0, 0);
                guessMet(trial, b, met);
                for (int a = 0; a < AMOUNTS; a++) {
                    if (Integer.bitCount(metBy[a]) > chosenMet) {
                        chosen = 10 * kind + a;
                        chosenMet = Integer.bitCount(metBy[a]);
                    }
                }
            }
        }

        /**
         * A brother stands at most once in a saying, and no a is multiplied by itself: so each saying's
         * meaning grows by the same with each 1 that his a is more.
         */
        private void guessMet(Rock trial, int b, int met) {
            for (int a = 0; a < AMOUNTS; a++) {
                metBy[a] = met;
            }
            if (!trial.has(b)) {
                return;
            }
            guesses.update(trial);
            trial.amounts[b] = 1;
            for (int i = 0; i < guesses.upTo(HOUSE); i++) {
                if ((guesses.membersOf(i) >> b & 1) != 0) {
                    int meaning = guesses.meaningOf(i);
                    int more = Line.meaning(trial, guesses.rowOf(i), guesses.lengthOf(i)) - meaning;
                    for (int a = 0; a < AMOUNTS; a++) {
                        metBy[a] |= trial.needsOf(meaning + a * more);
                    }
                }
            }
        }

        int bestPeace(Rock rock, Sayings all, int n) {
            for (int pair = 0; pair < PAIRS; pair++) {
                gains[pair] = 0;
            }
            for (int i = all.upTo(n - 1); i < all.upTo(n); i++) {
                int pair = Line.onlyFeud(rock, all.rowOf(i), n);
                if (pair >= 0 && pair < PAIRS) {
                    gains[pair]++;
                }
            }
            int best = NONE;
            for (int pair = 0; pair < PAIRS; pair++) {
                boolean feud = pair / 10 < pair % 10 && rock.feuding(pair / 10, pair % 10);
                if (feud && (best == NONE || gains[pair] > gains[best])) {
                    best = pair;
                }
            }
            return best;
        }
    }

    /** A told saying: it is heard to its end or to where it is wrong. */
    private static final class Told {
        long row;
        int wrong;

        void hear(Rock rock, Shelf shelf, int n) {
            row = 0;
            int heard = 0;
            int place = Grammar.START;
            for (int i = 0; i < n; i++) {
                long v = shelf.spans(i, 1) ? shelf.elements[i] : NONE;
                int b = v >= 0 && v < rock.brothers ? (int) v : NONE;
                if (!rock.isLiving(b) || (heard >> b & 1) != 0) {
                    wrong = i;
                    return;
                }
                place = Grammar.next(place, rock.kinds[b]);
                if (place == NONE) {
                    wrong = i;
                    return;
                }
                heard |= 1 << b;
                row = Line.with(row, i, b);
            }
            wrong = Grammar.mayEnd(place) ? NONE : n;
        }
    }

    /** Holds nothing, a row of numbers, or a brother by his number. */
    private static final class Shelf {
        static final int MOST = 40;
        static final int BROTHER = 10;

        private static final int BYTES = 0;
        private static final int SHORTS = 1;
        private static final int INTS = 2;
        private static final int LONGS = 3;
        private static final int BOOLEANS = 4;

        // NONE, the sort of a row, or BROTHER and a brother's number.
        int thing = NONE;
        int length;
        final long[] elements = new long[MOST];

        static boolean isSort(int sort) {
            return sort >= BYTES && sort <= BOOLEANS;
        }

        boolean isEmpty() {
            return thing == NONE;
        }

        boolean isRow() {
            return isSort(thing);
        }

        void hold(int what) {
            thing = what;
            length = 0;
        }

        void holdRow(int sort, int n) {
            thing = sort;
            length = Math.min(n, MOST);
            for (int i = 0; i < MOST; i++) {
                elements[i] = 0;
            }
        }

        /** Whether there are n elements from place i on. */
        boolean spans(int i, int n) {
            return i >= 0 && n >= 0 && n <= length && i <= length - n;
        }

        void put(int i, long v) {
            if (spans(i, 1)) {
                elements[i] = narrow(v);
            }
        }

        private long narrow(long v) {
            switch (thing) {
                case BYTES: return (byte) v;
                case SHORTS: return (short) v;
                case INTS: return (int) v;
                case LONGS: return v;
                default: return v != 0 ? 1 : 0;
            }
        }
    }

    /** The tape, and the reading of it token by token. */
    private static final class Tape {
        private static final int MOST = 250;
        private static final int MOST_DIGITS = 3;

        private static final int END = 0;
        private static final int WORD = 1;
        private static final int NUMBER = 2;
        private static final int SIGN = 3;
        private static final int ODD = 4;

        private final int[] bytes = new int[MOST];
        int size;
        // Where the last reading failed; NONE: it didn't.
        int fault = NONE;
        private int start;
        private int end;
        private int token;

        boolean hasRoom() {
            return size < MOST;
        }

        int add(int letter) {
            if (hasRoom()) {
                bytes[size] = letter;
                size++;
            }
            return size;
        }

        int clear() {
            int ahead = size;
            size = 0;
            return ahead;
        }

        /** Does all statements to a rock, which is of use only if there is no fault: how many there were. */
        int read(Rock rock) {
            end = 0;
            for (int statements = 1; statements <= MOST; statements++) {
                boolean isRight = readStatement(rock);
                if (isRight) {
                    step();
                    if (token == END) {
                        fault = NONE;
                        return statements;
                    }
                }
                if (!isRight || token != SIGN) {
                    break;
                }
            }
            fault = start;
            return 0;
        }

        // Each of these is false as soon as the last token can't stand there.

        private boolean readStatement(Rock rock) {
            step();
            if (isWord("brother")) {
                return readBrother(rock);
            }
            if (isWord("feud")) {
                return readFeud(rock, true);
            }
            if (isWord("peace")) {
                return readFeud(rock, false);
            }
            if (isWord("need")) {
                return readNeed(rock, 1);
            }
            if (isWord("less")) {
                return readNeed(rock, -1);
            }
            if (isWord("age")) {
                return readAge(rock);
            }
            return isWord("dies") && readDeath(rock);
        }

        private boolean readBrother(Rock rock) {
            if (!rock.hasRoom()) {
                return false;
            }
            int kind = stepToNumber();
            if (!Grammar.isKind(kind)) {
                return false;
            }
            int amount = stepToNumber();
            if (!Rock.isAmount(amount)) {
                return false;
            }
            int cell = stepToNumber();
            if (!Rock.isCell(cell)) {
                return false;
            }
            rock.addBrother(kind, amount, cell);
            return true;
        }

        private boolean readFeud(Rock rock, boolean is) {
            int x = stepToNumber();
            if (!rock.has(x)) {
                return false;
            }
            int y = stepToNumber();
            if (!rock.has(y) || y == x) {
                return false;
            }
            rock.setFeud(x, y, is);
            return true;
        }

        private boolean readNeed(Rock rock, int sign) {
            if (!rock.hasNeedRoom()) {
                return false;
            }
            int n = stepToNumber();
            if (n == NONE) {
                return false;
            }
            rock.addNeed(sign * n);
            return true;
        }

        private boolean readAge(Rock rock) {
            int x = stepToNumber();
            if (!rock.has(x)) {
                return false;
            }
            int v = stepToNumber();
            if (!Rock.isAge(v)) {
                return false;
            }
            rock.ages[x] = v;
            return true;
        }

        private boolean readDeath(Rock rock) {
            int x = stepToNumber();
            if (!rock.isLiving(x)) {
                return false;
            }
            rock.bury(x);
            return true;
        }

        /** The next token's number; NONE: it is none, or too long. */
        private int stepToNumber() {
            step();
            if (token != NUMBER || end - start > MOST_DIGITS) {
                return NONE;
            }
            int n = 0;
            for (int i = start; i < end; i++) {
                n = 10 * n + bytes[i] - '0';
            }
            return n;
        }

        private boolean isWord(String word) {
            if (token != WORD || end - start != word.length()) {
                return false;
            }
            for (int i = 0; i < word.length(); i++) {
                if (bytes[start + i] != word.charAt(i)) {
                    return false;
                }
            }
            return true;
        }

        private void step() {
            start = end;
            while (start < size && bytes[start] == ' ') {
                start++;
            }
            if (start >= size) {
                token = END;
                end = start;
                return;
            }
            token = tokenOf(bytes[start]);
            end = start + 1;
            while (end < size && (token == WORD || token == NUMBER) && tokenOf(bytes[end]) == token) {
                end++;
            }
        }

        private static int tokenOf(int letter) {
            if (letter >= 'a' && letter <= 'z') {
                return WORD;
            }
            if (letter >= '0' && letter <= '9') {
                return NUMBER;
            }
            return letter == ';' ? SIGN : ODD;
        }
    }
}
