/**
 * The document again, promise by promise: each sentence that names a boundary, at the boundary and beyond it.
 * Answers are done by hand; Scene says what objects there are and what else is held of each call.
 */
final class EdgesTest {
    private static final int TELL = -100000000;
    private static final int LEAST = Integer.MIN_VALUE;
    private static final int MOST = Integer.MAX_VALUE;

    private EdgesTest() {
    }

    public static void main(String[] args) {
        newObject();
        row();
        set();
        narrowing();
        copy();
        element();
        holds();
        show();
        says();
        brother();
        feud();
        need();
        age();
        goes();
        dies();
        feed();
        wipe();
        rock();
        rockOfMen();
        rockOfNeeds();
        rockOfTheRest();
        rockByPlace();
        brotherOf();
        needOf();
        shortest();
        said();
        many();
        who();
        nearest();
        first();
        crowd();
        gather();
        alone();
        lasting();
        longest();
        met();
        without();
        mightiest();
        choice();
        choiceAgain();
        choiceByTheLast();
        lost();
        ran();
        meant();
        judge();
        judgeWords();
        judgeOfTen();
        means();
        stands();
        done();
        peace();
        years();
        draws();
        seed();
        image();
        back();
        status();
        Due.end("EdgesTest");
    }

    /** What is seen after a call, if that answered what is due. */
    private static long after(long answer, long due, long seen) {
        return answer == due ? seen : LEAST;
    }

    private static void newObject() {
        Scene.at(1, Scene::empty);
        Scene.asks("no BROTHERS", 0, x -> x.status(0));
        Scene.asks("no NEEDS", 0, x -> x.status(2));
        Scene.asks("no FEUDS", 0, x -> x.status(3));
        Scene.asks("nothing said", 0, x -> x.status(4));
        Scene.asks("THE TAPE is empty", 0, x -> x.status(6));
        Scene.asks("SEED", 1, x -> x.status(7));
        Scene.asks("SHELVES hold NOTHING", 0, x -> x.status(8));
        for (int what = 12; what <= 16; what++) {
            int refusals = what;
            Scene.asks("no REFUSALS", 0, x -> x.status(refusals));
        }
        Scene.no("nothing was kept", -5, x -> x.back());
        Scene.no("BROTHER 0", -2, x -> x.brotherOf(0, 0));
        Scene.no("NEED 0", TELL - 2, x -> x.needOf(0));
    }

    private static void row() {
        Scene.at(2, Scene::house);
        Scene.fine("SHELF 0, bytes, 0 elements", 1, x -> x.row(0, 0, 0));
        Scene.fine("SHELF 7, booleans, 40 elements", 1, x -> x.row(7, 4, 40));
        Scene.no("SHELF -1", -2, x -> x.row(-1, 0, 1));
        Scene.no("SHELF 8", -2, x -> x.row(8, 0, 1));
        Scene.no("SORT -1", -2, x -> x.row(0, -1, 1));
        Scene.no("SORT 5", -2, x -> x.row(0, 5, 1));
        Scene.no("-1 elements", -2, x -> x.row(0, 0, -1));
        Scene.no("41 elements", -2, x -> x.row(0, 0, 41));
        Scene.no("all of it", -2, x -> x.row(MOST, LEAST, LEAST));
        for (int sort = 0; sort < 5; sort++) {
            int k = sort;
            Scene.fine("SORT " + k + " in place of a ROW", k, x -> after(x.row(0, k, 3), 1, x.holds(0)));
            Scene.fine("SORT " + k + " in place of a BROTHER", k, x -> after(x.row(1, k, 3), 1, x.holds(1)));
            Scene.fine("SORT " + k + " in place of NOTHING", k, x -> after(x.row(2, k, 3), 1, x.holds(2)));
            Scene.fine("0 at first", 0, x -> after(x.row(0, k, 40), 1, digits(x, 0, 40)));
        }
        Scene.fine("0 again where 7 was", 0, x -> after(x.row(3, 0, 40), 1, x.element(3, 39)));
        Scene.fine("0 again where 2 0 4 was", 0, x -> after(x.row(5, 2, 3), 1, digits(x, 5, 3)));
        Scene.fine("longer than the one ahead", 1, x -> after(x.row(0, 2, 40), 1, x.set(0, 39, 1)));
        Scene.fine("shorter, and long again", 0, x -> after(x.row(3, 0, 1), 1, after(x.row(3, 0, 40), 1, x.element(3, 39))));
        Scene.fine("the SHELVES beside it", 12, x -> after(x.row(0, 0, 1), 1, x.holds(1)));
    }

    private static void set() {
        Scene.at(3, Scene::house);
        Scene.fine("the first", 1, x -> x.set(0, 0, 5));
        Scene.fine("the last", 1, x -> x.set(0, 2, 5));
        Scene.fine("the last of 40", 1, x -> x.set(3, 39, 5));
        Scene.fine("just that one", 2941536, x -> after(x.set(5, 1, 9), 1, digits(x, 5, 7)));
        Scene.no("behind the last", -2, x -> x.set(0, 3, 5));
        Scene.no("ahead of the first", -2, x -> x.set(0, -1, 5));
        Scene.no("behind the last of 40", -2, x -> x.set(3, 40, 5));
        Scene.no("of a ROW of 0", -2, x -> x.set(4, 0, 5));
        Scene.no("far behind", -2, x -> x.set(0, MOST, 5));
        Scene.no("SHELF -1", -2, x -> x.set(-1, 0, 5));
        Scene.no("SHELF 8", -2, x -> x.set(8, 0, 5));
        Scene.no("a BROTHER", -3, x -> x.set(1, 0, 5));
        Scene.no("a BROTHER, and i", -3, x -> x.set(1, -1, 5));
        Scene.no("NOTHING", -4, x -> x.set(2, 0, 5));
        Scene.no("NOTHING, and i", -4, x -> x.set(2, 40, 5));
        Scene.no("SHELF and i", -2, x -> x.set(8, -1, 5));
    }

    private static void kept(int sort, long v, long want) {
        Scene.fine("SORT " + sort + " gets " + v, want, x -> {
            x.row(0, sort, 1);
            x.set(0, 0, v);
            return x.element(0, 0);
        });
    }

    private static void narrowing() {
        Scene.at(3, Scene::empty);
        kept(0, 127, 127);
        kept(0, 128, -128);
        kept(0, -128, -128);
        kept(0, -129, 127);
        kept(0, 255, -1);
        kept(0, 256, 0);
        kept(0, Long.MAX_VALUE, -1);
        kept(1, 32767, 32767);
        kept(1, 32768, -32768);
        kept(1, -32768, -32768);
        kept(1, -32769, 32767);
        kept(1, 65536, 0);
        kept(1, Long.MIN_VALUE, 0);
        kept(2, 2147483647L, 2147483647L);
        kept(2, 2147483648L, -2147483648L);
        kept(2, -2147483648L, -2147483648L);
        kept(2, -2147483649L, 2147483647L);
        kept(2, 4294967296L, 0);
        kept(3, Long.MAX_VALUE, Long.MAX_VALUE);
        kept(3, Long.MIN_VALUE, Long.MIN_VALUE);
        kept(3, 4294967296L, 4294967296L);
        kept(4, 0, 0);
        kept(4, 1, 1);
        kept(4, -1, 1);
        kept(4, 2, 1);
        kept(4, 256, 1);
        kept(4, 4294967296L, 1);
        kept(4, Long.MIN_VALUE, 1);
    }

    /** SHELVES of house() hold: 0 ints 3; 1 a BROTHER; 2 NOTHING; 3 bytes 40; 4 booleans 0; 5 ints 7; 6 ints 2; 7 a BROTHER. */
    private static void copy() {
        Scene.at(4, Scene::house);
        Scene.fine("to the very end", 3, x -> x.copy(0, 5, 0, 4, 3));
        Scene.no("beyond it", -2, x -> x.copy(0, 5, 0, 5, 3));
        Scene.fine("from the very end", 3, x -> x.copy(5, 0, 4, 0, 3));
        Scene.no("from beyond it", -2, x -> x.copy(5, 0, 5, 0, 3));
        Scene.no("more than there goes in", -2, x -> x.copy(5, 0, 0, 0, 4));
        Scene.no("more than there are", -2, x -> x.copy(0, 5, 0, 0, 4));
        Scene.asks("all 40 to where they are", 40, x -> x.copy(3, 3, 0, 0, 40));
        Scene.no("41", -2, x -> x.copy(3, 3, 0, 0, 41));
        Scene.no("40 from 1", -2, x -> x.copy(3, 3, 1, 0, 40));
        Scene.no("40 to 1", -2, x -> x.copy(3, 3, 0, 1, 40));
        Scene.fine("39 to 1", 39, x -> x.copy(3, 3, 0, 1, 39));
        Scene.asks("none of none", 0, x -> x.copy(4, 4, 0, 0, 0));
        Scene.no("one of none", -2, x -> x.copy(4, 4, 0, 0, 1));
        Scene.asks("none", 0, x -> x.copy(0, 5, 2, 6, 0));
        Scene.no("-1", -2, x -> x.copy(0, 5, 0, 0, -1));
        Scene.no("from -1", -2, x -> x.copy(0, 5, -1, 0, 1));
        Scene.no("to -1", -2, x -> x.copy(0, 5, 0, -1, 1));
        Scene.no("none from -1", -2, x -> x.copy(0, 5, -1, 0, 0));
        Scene.no("none from far behind", -2, x -> x.copy(0, 5, MOST, 0, 0));
        Scene.no("so many that places wrap", -2, x -> x.copy(0, 5, MOST, MOST, MOST));
        Scene.no("places that wrap", -2, x -> x.copy(0, 5, MOST, 0, 2));
        copyRefused();
        copyOver();
    }

    private static void copyRefused() {
        Scene.no("SHELF p -1", -2, x -> x.copy(-1, 0, 0, 0, 1));
        Scene.no("SHELF p 8", -2, x -> x.copy(8, 0, 0, 0, 1));
        Scene.no("SHELF q -1", -2, x -> x.copy(0, -1, 0, 0, 1));
        Scene.no("SHELF q 8", -2, x -> x.copy(0, 8, 0, 0, 1));
        Scene.no("SHELF q 8, p a BROTHER", -2, x -> x.copy(1, 8, 0, 0, 1));
        Scene.no("SHELF p 8, q NOTHING", -2, x -> x.copy(8, 2, 0, 0, 1));
        Scene.no("from a BROTHER", -3, x -> x.copy(1, 0, 0, 0, 0));
        Scene.no("to a BROTHER", -3, x -> x.copy(0, 1, 0, 0, 0));
        Scene.no("a BROTHER to himself", -3, x -> x.copy(1, 1, 0, 0, 0));
        Scene.no("a BROTHER to another", -3, x -> x.copy(1, 7, 0, 0, 0));
        Scene.no("a BROTHER to NOTHING", -3, x -> x.copy(1, 2, 0, 0, 0));
        Scene.no("NOTHING to a BROTHER", -3, x -> x.copy(2, 1, 0, 0, 0));
        Scene.no("two SORTS", -3, x -> x.copy(0, 3, 0, 0, 1));
        Scene.no("two SORTS, none", -3, x -> x.copy(3, 4, 0, 0, 0));
        Scene.no("two SORTS, and places", -3, x -> x.copy(0, 3, -1, 40, 99));
        Scene.no("from NOTHING", -4, x -> x.copy(2, 0, 0, 0, 0));
        Scene.no("to NOTHING", -4, x -> x.copy(0, 2, 0, 0, 0));
        Scene.no("NOTHING to NOTHING", -4, x -> x.copy(2, 2, 0, 0, 0));
        Scene.no("to NOTHING, and places", -4, x -> x.copy(0, 2, -1, -1, -1));
        Scene.no("a BROTHER, and places", -3, x -> x.copy(1, 0, -1, -1, -1));
    }

    private static void copyOver() {
        // 2 0 4 1 5 3 6
        Scene.fine("on to itself, later", 2204153, x -> after(x.copy(5, 5, 0, 1, 6), 6, digits(x, 5, 7)));
        Scene.fine("on to itself, sooner", 415366, x -> after(x.copy(5, 5, 1, 0, 6), 6, digits(x, 5, 7)));
        Scene.fine("from itself to itself", 2041536, x -> after(x.copy(5, 5, 3, 3, 4), 4, digits(x, 5, 7)));
        Scene.fine("what is copied stays", 2041536, x -> after(x.copy(5, 0, 0, 0, 3), 3, digits(x, 5, 7)));
        Scene.fine("where it comes to", 204, x -> after(x.copy(5, 0, 0, 0, 3), 3, digits(x, 0, 3)));
        Scene.fine("what is beside it", 15, x -> after(x.copy(5, 0, 4, 2, 1), 1, digits(x, 0, 3)));
        Scene.fine("the place from which", 36, x -> after(x.copy(5, 6, 5, 0, 2), 2, digits(x, 6, 2)));
    }

    private static long digits(VowOfOneWord x, int s, int n) {
        long all = 0;
        for (int i = 0; i < n; i++) {
            all = 10 * all + x.element(s, i);
        }
        return all;
    }

    private static void element() {
        Scene.at(5, Scene::house);
        Scene.asks("the first", 2, x -> x.element(5, 0));
        Scene.asks("the last", 6, x -> x.element(5, 6));
        Scene.asks("behind the last", 0, x -> x.element(5, 7));
        Scene.asks("ahead of the first", 0, x -> x.element(5, -1));
        Scene.asks("the last of 40", 7, x -> x.element(3, 39));
        Scene.asks("behind the last of 40", 0, x -> x.element(3, 40));
        Scene.asks("of a ROW of 0", 0, x -> x.element(4, 0));
        Scene.asks("of a BROTHER", 0, x -> x.element(1, 0));
        Scene.asks("of NOTHING", 0, x -> x.element(2, 0));
        Scene.asks("SHELF -1", 0, x -> x.element(-1, 0));
        Scene.asks("SHELF 8", 0, x -> x.element(8, 0));
        Scene.asks("far", 0, x -> x.element(LEAST, MOST) + x.element(0, LEAST) + x.element(0, MOST));
    }

    private static void holds() {
        Scene.at(6, Scene::house);
        int[] want = {2, 12, -1, 0, 4, 2, 2, 18};
        for (int i = 0; i < 8; i++) {
            int s = i;
            Scene.asks("SHELF " + s, want[s], x -> x.holds(s));
        }
        Scene.asks("SHELF -1", -1, x -> x.holds(-1));
        Scene.asks("SHELF 8", -1, x -> x.holds(8));
        Scene.asks("far", -2, x -> x.holds(LEAST) + x.holds(MOST));
        Scene.at(6, Scene::ten);
        Scene.fine("BROTHER 0", 10, x -> after(x.show(0, 0), 1, x.holds(0)));
        Scene.asks("BROTHER 9", 19, x -> x.holds(7));
    }

    private static void show() {
        Scene.at(7, Scene::house);
        Scene.fine("BROTHER 0", 10, x -> after(x.show(0, 0), 1, x.holds(0)));
        Scene.fine("one who doesn't LIVE", 18, x -> after(x.show(7, 8), 1, x.holds(7)));
        Scene.fine("NOTHING in place of a ROW", -1, x -> after(x.show(0, -1), 1, x.holds(0)));
        Scene.fine("NOTHING in place of a BROTHER", -1, x -> after(x.show(1, -1), 1, x.holds(1)));
        Scene.asks("NOTHING in place of NOTHING", 1, x -> x.show(2, -1));
        Scene.fine("one on two SHELVES", 24, x -> after(x.show(0, 2), 1, x.holds(0) + x.holds(1)));
        Scene.no("BROTHER 9", -2, x -> x.show(0, 9));
        Scene.no("BROTHER -2", -2, x -> x.show(0, -2));
        Scene.no("SHELF -1", -2, x -> x.show(-1, 0));
        Scene.no("SHELF 8", -2, x -> x.show(8, 0));
        Scene.no("SHELF 8, NOTHING", -2, x -> x.show(8, -1));
        Scene.no("SHELF and BROTHER", -2, x -> x.show(-1, 9));
        Scene.no("far", -2, x -> x.show(0, MOST));
        Scene.at(7, Scene::empty);
        Scene.no("of no BROTHERS", -2, x -> x.show(0, 0));
        Scene.asks("of no BROTHERS, NOTHING", 1, x -> x.show(0, -1));
        Scene.at(7, Scene::ten);
        Scene.fine("BROTHER 9 of 10", 19, x -> after(x.show(0, 9), 1, x.holds(0)));
        Scene.no("BROTHER 10 of 10", -2, x -> x.show(0, 10));
    }

    private static void says() {
        Scene.at(8, Scene::house);
        Scene.asks("a MANY, taken for a WORD", 1, x -> x.says(1, 0));
        Scene.asks("a MANY, taken for a NAME", 1, x -> x.says(1, 1));
        Scene.asks("a MANY", 1, x -> x.says(1, 3));
        Scene.no("a MANY is no DEED", -3, x -> x.says(1, 2));
        Scene.no("a MANY is no NOT", -3, x -> x.says(1, 4));
        Scene.no("a MANY is no AND", -3, x -> x.says(1, 5));
        Scene.asks("the dead one taken for a WORD", 9, x -> x.says(7, 0));
        Scene.asks("the dead one, of whose KIND 2 LIVE", 2, x -> x.says(7, 1));
        Scene.no("a NAME is no MANY", -3, x -> x.says(7, 3));
        Scene.no("a ROW", -3, x -> x.says(0, 0));
        Scene.no("a ROW of 0", -3, x -> x.says(4, 5));
        Scene.no("NOTHING", -4, x -> x.says(2, 5));
        Scene.no("KIND -1", -2, x -> x.says(1, -1));
        Scene.no("KIND 6", -2, x -> x.says(1, 6));
        Scene.no("KIND 6 of a ROW", -2, x -> x.says(0, 6));
        Scene.no("KIND 6 of NOTHING", -2, x -> x.says(2, 6));
        Scene.no("SHELF -1", -2, x -> x.says(-1, 0));
        Scene.no("SHELF 8", -2, x -> x.says(8, 0));
        Scene.no("SHELF and KIND", -2, x -> x.says(8, -1));
        Scene.fine("none of his KIND LIVES", 0, x -> after(x.dies(2), 7, x.says(1, 3)));
        Scene.at(8, Scene::ten);
        Scene.fine("4 NAMES", 4, x -> after(x.show(0, 3), 1, x.says(0, 1)));
        Scene.fine("3 DEEDS", 3, x -> after(x.show(0, 4), 1, x.says(0, 2)));
        Scene.fine("a NOT taken for a DEED: just the NOTS", 1, x -> after(x.show(0, 8), 1, x.says(0, 2)));
        Scene.fine("a MANY taken for a NAME: just the MANYS", 1, x -> after(x.show(0, 7), 1, x.says(0, 1)));
        Scene.no("a DEED is no NOT", -3, x -> x.says(3, 4));
        Scene.no("a DEED is no NAME", -3, x -> x.says(2, 1));
        Scene.at(8, EdgesTest::tenOfAKind);
        Scene.fine("10 of a KIND", 10, x -> after(x.show(0, 9), 1, x.says(0, 5)));
        Scene.fine("10 of a KIND under WORD", 0, x -> after(x.show(0, 0), 1, x.says(0, 0)));
        Scene.fine("a of 9", 9, x -> after(x.show(0, 9), 1, x.says(0, 0)));
    }

    /** ANDS, each of his number. */
    private static VowOfOneWord tenOfAKind() {
        VowOfOneWord x = new VowOfOneWord();
        for (int b = 0; b < 10; b++) {
            x.brother(5, b, 0);
        }
        return x;
    }

    private static VowOfOneWord tenOneDead() {
        VowOfOneWord x = Scene.ten();
        x.dies(3);
        return x;
    }

    private static void brother() {
        for (int full = 0; full < 2; full++) {
            // BAD is answered ahead of FULL
            Scene.at(9, full == 0 ? Scene::house : Scene::ten);
            Scene.no("KIND -1", -2, x -> x.brother(-1, 0, 0));
            Scene.no("KIND 6", -2, x -> x.brother(6, 0, 0));
            Scene.no("a -1", -2, x -> x.brother(0, -1, 0));
            Scene.no("a 10", -2, x -> x.brother(0, 10, 0));
            for (int bad : new int[] {LEAST, -10, -1, 6, 9, 16, 49, 56, 59, 60, 65, 66, 100, MOST}) {
                Scene.no("CELL " + bad, -2, x -> x.brother(0, 0, bad));
            }
            Scene.no("all of it", -2, x -> x.brother(6, 10, 60));
        }
        Scene.at(9, Scene::ten);
        Scene.no("the 11th", -6, x -> x.brother(0, 0, 0));
        Scene.at(9, EdgesTest::tenOneDead);
        Scene.no("the 11th, though one is dead", -6, x -> x.brother(0, 0, 0));
        Scene.at(9, Scene::house);
        Scene.fine("the 10th", 9, x -> x.brother(0, 0, 0));
        for (int cell : new int[] {0, 5, 10, 15, 50, 55}) {
            Scene.fine("CELL " + cell, cell, x -> after(x.brother(5, 9, cell), 9, x.brotherOf(9, 2)));
        }
        Scene.at(9, Scene::empty);
        for (int i = 0; i <= 5; i++) {
            int kind = i;
            Scene.fine("KIND " + kind, kind, x -> after(x.brother(kind, 0, 0), 0, x.brotherOf(0, 0)));
        }
        Scene.fine("a 0", 0, x -> after(x.brother(0, 0, 0), 0, x.brotherOf(0, 1)));
        Scene.fine("a 9", 9, x -> after(x.brother(0, 9, 0), 0, x.brotherOf(0, 1)));
        Scene.fine("AGE at first", 20, x -> after(x.brother(0, 9, 0), 0, x.brotherOf(0, 3)));
        Scene.fine("no FEUDS at first", 0, x -> after(x.brother(0, 9, 0), 0, x.brotherOf(0, 4)));
        Scene.fine("he LIVES at first", 1, x -> after(x.brother(0, 9, 0), 0, x.brotherOf(0, 5)));
    }

    private static void feud() {
        Scene.at(10, Scene::house);
        Scene.asks("they do already", 1, x -> x.feud(0, 4, true));
        Scene.asks("they do already, told the other way", 1, x -> x.feud(4, 0, true));
        Scene.asks("they don't already", 0, x -> x.feud(0, 1, false));
        Scene.fine("each with the other", 16 + 2, x -> after(x.feud(0, 1, true), 0, x.brotherOf(0, 4)));
        Scene.fine("the other with him", 1, x -> after(x.feud(0, 1, true), 0, x.brotherOf(1, 4)));
        Scene.fine("no more", 0, x -> after(x.feud(4, 0, false), 1, x.brotherOf(0, 4) + x.brotherOf(4, 4)));
        Scene.fine("with the dead", 256 + 1, x -> after(x.feud(8, 0, true), 0, x.brotherOf(0, 4) - 16 + x.brotherOf(8, 4) - 128));
        Scene.fine("no more with the dead", 0, x -> after(x.feud(7, 8, false), 1, x.brotherOf(7, 4)));
        Scene.no("the same", -2, x -> x.feud(0, 0, true));
        Scene.no("the same, no more", -2, x -> x.feud(8, 8, false));
        Scene.no("BROTHER -1", -2, x -> x.feud(-1, 0, true));
        Scene.no("BROTHER 9", -2, x -> x.feud(9, 0, true));
        Scene.no("the other -1", -2, x -> x.feud(0, -1, true));
        Scene.no("the other 9", -2, x -> x.feud(0, 9, true));
        Scene.no("the same, and nobody", -2, x -> x.feud(9, 9, true));
        Scene.no("no more with nobody", -2, x -> x.feud(0, 32, false));
        Scene.at(10, Scene::empty);
        Scene.no("of no BROTHERS", -2, x -> x.feud(0, 1, true));
        Scene.at(10, Scene::ten);
        Scene.asks("the last two", 1, x -> x.feud(8, 9, true));
        Scene.no("the 11th", -2, x -> x.feud(9, 10, true));
        Scene.fine("one pair less", 44, x -> after(x.feud(9, 0, false), 1, x.status(3)));
    }

    private static void need() {
        Scene.at(11, Scene::house);
        Scene.fine("999", 999, x -> after(x.need(999), 3, x.needOf(3)));
        Scene.fine("-999", -999, x -> after(x.need(-999), 3, x.needOf(3)));
        Scene.fine("0", 0, x -> after(x.need(0), 3, x.needOf(3)));
        Scene.fine("the same again", 12, x -> after(x.need(12), 3, x.needOf(3)));
        Scene.no("1000", -2, x -> x.need(1000));
        Scene.no("-1000", -2, x -> x.need(-1000));
        Scene.no("far", -2, x -> x.need(LEAST));
        Scene.at(11, Scene::empty);
        Scene.fine("the first", 0, x -> x.need(1));
        Scene.at(11, EdgesTest::seven);
        Scene.fine("the 8th", 7, x -> x.need(1));
        Scene.at(11, Scene::ten);
        Scene.no("the 9th", -6, x -> x.need(1));
        Scene.no("the 9th, of 1000", -2, x -> x.need(1000));
        Scene.no("the 9th, of -1000", -2, x -> x.need(-1000));
    }

    /** 7 NEEDS. */
    private static VowOfOneWord seven() {
        VowOfOneWord x = new VowOfOneWord();
        for (int need = 0; need < 7; need++) {
            x.need(need);
        }
        return x;
    }

    private static void age() {
        Scene.at(12, Scene::house);
        Scene.fine("0", 0, x -> after(x.age(3, 0), 99, x.brotherOf(3, 3)));
        Scene.fine("99", 99, x -> after(x.age(0, 99), 20, x.brotherOf(0, 3)));
        Scene.asks("as it was", 99, x -> x.age(3, 99));
        Scene.fine("of the dead", 5, x -> after(x.age(8, 5), 20, x.brotherOf(8, 3)));
        Scene.no("-1", -2, x -> x.age(0, -1));
        Scene.no("100", -2, x -> x.age(0, 100));
        Scene.no("BROTHER -1", -2, x -> x.age(-1, 5));
        Scene.no("BROTHER 9", -2, x -> x.age(9, 5));
        Scene.no("both", -2, x -> x.age(9, 100));
        Scene.at(12, Scene::empty);
        Scene.no("of no BROTHERS", -2, x -> x.age(0, 5));
        Scene.at(12, Scene::ten);
        Scene.fine("BROTHER 9 of 10", 99, x -> x.age(9, 5));
        Scene.no("BROTHER 10 of 10", -2, x -> x.age(10, 5));
    }

    private static void goes() {
        Scene.at(13, Scene::house);
        for (int cell : new int[] {0, 5, 10, 15, 50, 55}) {
            Scene.fine("to CELL " + cell, cell, x -> after(x.goes(3, cell), 33, x.brotherOf(3, 2)));
        }
        Scene.asks("to where he is", 33, x -> x.goes(3, 33));
        Scene.fine("the dead", 0, x -> after(x.goes(8, 0), 50, x.brotherOf(8, 2)));
        for (int bad : new int[] {LEAST, -10, -1, 6, 9, 16, 49, 56, 59, 60, 65, 66, 100, MOST}) {
            Scene.no("to CELL " + bad, -2, x -> x.goes(3, bad));
        }
        Scene.no("BROTHER -1", -2, x -> x.goes(-1, 0));
        Scene.no("BROTHER 9", -2, x -> x.goes(9, 0));
        Scene.no("both", -2, x -> x.goes(9, 60));
        Scene.at(13, Scene::empty);
        Scene.no("of no BROTHERS", -2, x -> x.goes(0, 0));
        Scene.at(13, Scene::ten);
        Scene.fine("BROTHER 9 of 10", 23, x -> x.goes(9, 0));
        Scene.no("BROTHER 10 of 10", -2, x -> x.goes(10, 0));
    }

    private static void dies() {
        Scene.at(14, Scene::house);
        Scene.fine("one of 8", 7, x -> x.dies(0));
        Scene.fine("he doesn't LIVE", 0, x -> after(x.dies(0), 7, x.brotherOf(0, 5)));
        Scene.fine("his FEUDS stay", 16, x -> after(x.dies(0), 7, x.brotherOf(0, 4)));
        Scene.fine("he is shown yet", 12, x -> after(x.dies(2), 7, x.holds(1)));
        Scene.no("twice", -5, x -> x.dies(8));
        Scene.no("BROTHER -1", -2, x -> x.dies(-1));
        Scene.no("BROTHER 9", -2, x -> x.dies(9));
        Scene.no("far", -2, x -> x.dies(32));
        Scene.at(14, Scene::empty);
        Scene.no("of no BROTHERS", -2, x -> x.dies(0));
        Scene.fine("the last one", 0, x -> after(x.brother(0, 0, 0), 0, x.dies(0)));
        Scene.at(14, Scene::ten);
        Scene.fine("one of 10", 9, x -> x.dies(9));
        Scene.no("BROTHER 10 of 10", -2, x -> x.dies(10));
        Scene.at(14, Scene::dead);
        Scene.no("of the dead", -5, x -> x.dies(0));
    }

    private static void feed() {
        Scene.at(15, Scene::house);
        Scene.fine("0", 7, x -> x.feed(0));
        Scene.fine("255", 7, x -> x.feed(255));
        Scene.fine("THE TAPE is a byte longer", 7, x -> after(x.feed(32), 7, x.status(6)));
        Scene.fine("behind it", 56, x -> after(x.feed('6'), 7, after(x.rock(), 1, x.needOf(3))));
        Scene.no("-1", -2, x -> x.feed(-1));
        Scene.no("256", -2, x -> x.feed(256));
        Scene.no("far", -2, x -> x.feed(LEAST));
        Scene.at(15, Scene::empty);
        Scene.fine("the first", 1, x -> x.feed(255));
        Scene.at(15, Scene::fullTape);
        Scene.no("the 251st", -6, x -> x.feed(0));
        Scene.no("the 251st, a letter", -6, x -> x.feed('z'));
        Scene.no("the 251st, of 256", -2, x -> x.feed(256));
        Scene.no("the 251st, of -1", -2, x -> x.feed(-1));
        Scene.at(15, () -> blanks(249));
        Scene.fine("the 250th", 250, x -> x.feed(0));
    }

    private static VowOfOneWord blanks(int n) {
        VowOfOneWord x = new VowOfOneWord();
        for (int i = 0; i < n; i++) {
            x.feed(32);
        }
        return x;
    }

    private static void wipe() {
        Scene.at(16, Scene::empty);
        Scene.asks("an empty TAPE", 0, x -> x.wipe());
        Scene.at(16, Scene::fullTape);
        Scene.fine("250 bytes", 250, x -> x.wipe());
        Scene.fine("empty then", 0, x -> after(x.wipe(), 250, x.status(6)));
        Scene.fine("twice", 0, x -> after(x.wipe(), 250, x.wipe()));
        Scene.fine("room again", 1, x -> after(x.wipe(), 250, x.feed(32)));
        Scene.fine("nothing of it is read", 1, x -> after(x.wipe(), 250, after(Scene.read(x, "need 1"), 1, x.status(2))));
    }

    private static void reads(String text, int statements) {
        Scene.fine("'" + text + "'", statements, x -> Scene.read(x, text));
    }

    private static void rock() {
        Scene.at(17, Scene::fullTape);
        Scene.fine("250 bytes", 2, x -> x.rock());
        Scene.fine("THE TAPE is empty then", 0, x -> after(x.rock(), 2, x.status(6)));
        Scene.at(17, Scene::empty);
        Scene.fault("", 0);
        Scene.fault(" ", 1);
        Scene.fault(" ".repeat(250), 250);
        Scene.fault(" ".repeat(249) + "z", 249);
        Scene.fault("need 1" + " ".repeat(243) + ";", 250);
        Scene.fault("need 1" + " ".repeat(243) + "z", 249);
        Scene.fault("need 1" + " ".repeat(243) + "0", 249);
        reads(" ".repeat(244) + "need 1", 1);
        reads(" ".repeat(243) + "need 12", 1);
        reads("brother 0 0 0" + ";age0 0".repeat(33), 34);
        reads("brother0 0 0;" + "age0 0;".repeat(33) + "age0 0", 35);
        Scene.fault("need 1;", 7);
        Scene.fault("need 1 ; ", 9);
        Scene.fault(";", 0);
        Scene.fault("need 1;;", 7);
        Scene.fault("need 1,need 2", 6);
        Scene.fault("need", 4);
        Scene.fault("need;", 4);
        Scene.fault("neednd 1", 0);
        Scene.fault("needneed 1", 0);
        Scene.fault("nee d 1", 0);
        Scene.fault("a", 0);
        Scene.fault("z", 0);
        Scene.fault("5", 0);
        Scene.fault("NEED 1", 0);
        Scene.fault("need A", 5);
        Scene.fault("need\n1", 4);
        Scene.fault("need\u00001", 4);
        Scene.fault("need\u00ff1", 4);
        Scene.fault("need 1\u00e9", 6);
        for (char none : "!/:<@[`{".toCharArray()) {
            Scene.fault("need 1 " + none, 7);
            Scene.fault("need" + none + "1", 4);
            Scene.fault(none + "need 1", 0);
        }
        reads("need1", 1);
        reads("need 1;need2 ;need 3; less4", 4);
        reads("   need   1   ;   need   2   ", 2);
    }

    private static void rockOfMen() {
        Scene.at(17, Scene::empty);
        for (int kind = 0; kind <= 5; kind++) {
            reads("brother " + kind + " 0 0", 1);
        }
        reads("brother 5 9 55", 1);
        reads("brother 005 009 055", 1);
        reads("brother 0 0 00", 1);
        Scene.fault("brother 6 0 0", 8);
        Scene.fault("brother 0005 0 0", 8);
        Scene.fault("brother 0 10 0", 10);
        Scene.fault("brother 0 0000 0", 10);
        Scene.fault("brother 6 10 60", 8);
        for (int cell : new int[] {6, 9, 16, 49, 56, 59, 60, 65, 66, 99, 100, 999, 1000}) {
            Scene.fault("brother 0 0 " + cell, 12);
        }
        for (int cell : new int[] {5, 10, 15, 50}) {
            reads("brother 0 0 " + cell, 1);
        }
        Scene.fault("brother 0 0", 11);
        Scene.fault("brother 0 ", 10);
        Scene.fault("brother", 7);
        Scene.fault("brother ; 0 0", 8);
        Scene.fault("brother 0 0 0 0", 14);
        Scene.fault("brother 000", 11);
        Scene.fine("AGE of one who is read", 20, x -> after(Scene.read(x, "brother 1 2 3"), 1, x.brotherOf(0, 3)));
        Scene.fine("he LIVES", 1, x -> after(Scene.read(x, "brother 1 2 3"), 1, x.brotherOf(0, 5)));
        reads("brother 1 2 3" + ";brother 1 2 3".repeat(9), 10);
        Scene.fault("brother 1 2 3" + ";brother 1 2 3".repeat(10), 140);
        Scene.at(17, Scene::house);
        reads("brother 1 2 3", 1);
        Scene.fault("brother 1 2 3;brother 1 2 3", 14);
        Scene.fault("brother 1 2 3; brother", 15);
        Scene.fault("brother 1 2 3;brother 6", 14);
        Scene.at(17, Scene::ten);
        Scene.fault("brother 1 2 3", 0);
        Scene.fault(" brother", 1);
        Scene.fault("dies 0;brother 1 2 3", 7);
    }

    private static void rockOfNeeds() {
        Scene.at(17, Scene::empty);
        Scene.fine("need 0", 0, x -> after(Scene.read(x, "need 0"), 1, x.needOf(0)));
        Scene.fine("need 999", 999, x -> after(Scene.read(x, "need 999"), 1, x.needOf(0)));
        Scene.fine("less 0", 0, x -> after(Scene.read(x, "less 0"), 1, x.needOf(0)));
        Scene.fine("less 999", -999, x -> after(Scene.read(x, "less 999"), 1, x.needOf(0)));
        Scene.fine("need 001", 1, x -> after(Scene.read(x, "need 001"), 1, x.needOf(0)));
        Scene.fault("need 1000", 5);
        Scene.fault("less 1000", 5);
        Scene.fault("need 0000", 5);
        Scene.fault("less 99999999999999999999", 5);
        Scene.fault("need", 4);
        Scene.fault("less ", 5);
        Scene.fault("need -1", 5);
        reads("need 1;less 2;need 3;less 4;need 5;less 6;need 7;less 8", 8);
        Scene.fault("need 1;less 2;need 3;less 4;need 5;less 6;need 7;less 8;need 9", 56);
        Scene.at(17, EdgesTest::seven);
        reads("less 1", 1);
        Scene.fault("less 1;less 1", 7);
        Scene.fault("less 1;need", 7);
        Scene.at(17, Scene::ten);
        Scene.fault("need 1", 0);
        Scene.fault(" less 1000", 1);
    }

    private static void rockOfTheRest() {
        Scene.at(17, Scene::house);
        Scene.fine("feud", 16 + 2, x -> after(Scene.read(x, "feud 0 1"), 1, x.brotherOf(0, 4)));
        Scene.fine("the other", 1, x -> after(Scene.read(x, "feud 0 1"), 1, x.brotherOf(1, 4)));
        Scene.fine("peace", 0, x -> after(Scene.read(x, "peace 4 0"), 1, x.brotherOf(0, 4) + x.brotherOf(4, 4)));
        reads("feud 0 4", 1);
        reads("peace 0 1", 1);
        reads("feud 8 0", 1);
        Scene.fault("feud 0 0", 7);
        Scene.fault("peace 8 8", 8);
        Scene.fault("feud 9 0", 5);
        Scene.fault("feud 9 9", 5);
        Scene.fault("peace 0 9", 8);
        Scene.fault("feud 0", 6);
        Scene.fault("feud 0 1 2", 9);
        Scene.fault("feud 0001 2", 5);
        reads("feud 001 002", 1);
        Scene.fine("age 0", 0, x -> after(Scene.read(x, "age 3 0"), 1, x.brotherOf(3, 3)));
        Scene.fine("age 99", 99, x -> after(Scene.read(x, "age 8 99"), 1, x.brotherOf(8, 3)));
        Scene.fault("age 3 100", 6);
        Scene.fault("age 9 5", 4);
        Scene.fault("age 9 100", 4);
        Scene.fault("age 3", 5);
        Scene.fine("dies", 7, x -> after(Scene.read(x, "dies 0"), 1, x.status(1)));
        Scene.fault("dies 8", 5);
        Scene.fault("dies 9", 5);
        Scene.fault("dies 0;dies 0", 12);
        Scene.fault("dies", 4);
        Scene.at(17, Scene::empty);
        Scene.fault("feud 0 1", 5);
        Scene.fault("age 0 1", 4);
        Scene.fault("dies 0", 5);
        reads("brother 1 1 1;brother 1 1 1;feud 0 1;peace 0 1;age 1 5;dies 1;age 1 6;feud 1 0", 8);
        Scene.fault("brother 1 1 1;feud 0 1;brother 1 1 1", 21);
        Scene.at(17, Scene::ten);
        reads("age 9 0;peace 9 8;dies 9", 3);
        Scene.fault("age 10 0", 4);
    }

    /** What is told later goes by what is told sooner; a fault at the very last undoes all of it. */
    private static void rockByPlace() {
        Scene.at(17, Scene::house);
        Scene.fault("brother 1 2 3;feud 9 0;need 5;less 5;age 9 1;dies 9;peace 9 0;", 62);
        Scene.fault("dies 0;age 1 0;feud 1 2;need 1;dies 0", 36);
        Scene.fine("the last one told counts", 7, x -> after(Scene.read(x, "age 0 5;age 0 7"), 2, x.brotherOf(0, 3)));
        Scene.fine("the tape of house()", 1, x -> x.rock());
        Scene.fine("SEED stays", 77, x -> after(x.rock(), 1, x.status(7)));
        Scene.fine("SHELVES stay", 12, x -> after(x.rock(), 1, x.holds(1)));
        Scene.fine("what was kept stays", 2, x -> after(x.rock(), 1, after(x.back(), 1, x.status(2))));
    }

    private static void brotherOf() {
        Scene.at(18, Scene::house);
        int[] want = {1, 5, 33, 99, 64, 1};
        for (int i = 0; i <= 5; i++) {
            int what = i;
            Scene.asks("what " + what, want[what], x -> x.brotherOf(3, what));
        }
        Scene.asks("the dead one's FEUDS", 128, x -> x.brotherOf(8, 4));
        Scene.asks("the dead one doesn't LIVE", 0, x -> x.brotherOf(8, 5));
        Scene.no("what -1", -2, x -> x.brotherOf(3, -1));
        Scene.no("what 6", -2, x -> x.brotherOf(3, 6));
        Scene.no("BROTHER -1", -2, x -> x.brotherOf(-1, 0));
        Scene.no("BROTHER 9", -2, x -> x.brotherOf(9, 0));
        Scene.no("both", -2, x -> x.brotherOf(9, 6));
        Scene.at(18, Scene::empty);
        Scene.no("of no BROTHERS", -2, x -> x.brotherOf(0, 5));
        Scene.at(18, Scene::ten);
        Scene.asks("FEUDS of the first", 1022, x -> x.brotherOf(0, 4));
        Scene.asks("FEUDS of the last", 511, x -> x.brotherOf(9, 4));
        Scene.no("BROTHER 10 of 10", -2, x -> x.brotherOf(10, 0));
    }

    private static void needOf() {
        Scene.at(19, Scene::house);
        Scene.asks("the first", 12, x -> x.needOf(0));
        Scene.asks("the last", -12, x -> x.needOf(2));
        Scene.no("NEED 3", TELL - 2, x -> x.needOf(3));
        Scene.no("NEED -1", TELL - 2, x -> x.needOf(-1));
        Scene.no("far", TELL - 2, x -> x.needOf(MOST));
        Scene.at(19, Scene::ten);
        Scene.asks("the 8th", 891, x -> x.needOf(7));
        Scene.no("the 9th", TELL - 2, x -> x.needOf(8));
        Scene.at(19, Scene::empty);
        Scene.no("of no NEEDS", TELL - 2, x -> x.needOf(0));
        Scene.fine("999", 999, x -> after(x.need(999), 0, x.needOf(0)));
        Scene.fine("-999", -999, x -> after(x.need(-999), 0, x.needOf(0)));
    }

    private static void shortest() {
        Scene.at(20, Scene::house);
        Scene.asks("by 2", 2, x -> x.shortest(12, 2, false, -1));
        Scene.asks("the first of 2", 0, x -> x.shortest(12, 2, false, 0));
        Scene.asks("the last of 2", 1, x -> x.shortest(12, 6, false, 1));
        Scene.no("the 3rd of 2", -5, x -> x.shortest(12, 6, false, 2));
        Scene.no("far behind", -5, x -> x.shortest(12, 6, false, MOST));
        Scene.no("i -2", -2, x -> x.shortest(12, 6, false, -2));
        Scene.asks("none by 1", -1, x -> x.shortest(12, 1, false, -1));
        Scene.no("the first of none", -5, x -> x.shortest(12, 1, false, 0));
        Scene.no("by 0", -2, x -> x.shortest(12, 0, false, -1));
        Scene.no("by 7", -2, x -> x.shortest(12, 7, false, -1));
        Scene.asks("by 6 just", 6, x -> x.shortest(2, 6, false, -1));
        Scene.asks("the last of 6", 6, x -> x.shortest(2, 6, false, 5));
        Scene.no("behind the last of 6", -5, x -> x.shortest(2, 6, false, 6));
        Scene.asks("by 6, not by 5", -1, x -> x.shortest(2, 5, false, -1));
        // 2 3 4 1 5 0 6: -40 and 6
        Scene.asks("by 7 just", -1, x -> x.shortest(-34, 6, false, -1));
        // 0 4 1, or 2 0 4 6, where 0 and 4 feud
        Scene.asks("not CALM", 3, x -> x.shortest(-12, 6, false, -1));
        Scene.asks("CALM", -1, x -> x.shortest(-12, 6, true, -1));
        Scene.no("the first of no CALM one", -5, x -> x.shortest(-12, 6, true, 0));
        Scene.asks("10 by 3 6", 2, x -> x.shortest(10, 6, false, -1));
        Scene.asks("10, CALM", -1, x -> x.shortest(10, 6, true, -1));
        shortestEdges();
    }

    private static void shortestEdges() {
        Scene.asks("9999", -1, x -> x.shortest(9999, 6, false, -1));
        Scene.asks("-9999", -1, x -> x.shortest(-9999, 6, true, -1));
        Scene.no("10000", -2, x -> x.shortest(10000, 6, false, -1));
        Scene.no("-10000", -2, x -> x.shortest(-10000, 6, false, -1));
        Scene.no("10000, the first", -2, x -> x.shortest(10000, 6, false, 0));
        Scene.no("by 7, the 3rd of 2", -2, x -> x.shortest(12, 7, false, 2));
        Scene.no("all of it", -2, x -> x.shortest(LEAST, 0, true, LEAST));
        Scene.at(20, Scene::empty);
        Scene.asks("of no BROTHERS", -1, x -> x.shortest(0, 6, false, -1));
        Scene.no("the first of none", -5, x -> x.shortest(0, 6, false, 0));
        Scene.at(20, Scene::dead);
        Scene.asks("of the dead", -1, x -> x.shortest(12, 6, false, -1));
        Scene.at(20, Scene::ten);
        Scene.asks("by 6 of 10", 6, x -> x.shortest(891, 6, false, -1));
        // 0 4 9 7 1 5, the first by rows of N D A M N D and M N D A N D
        Scene.asks("the last", 5, x -> x.shortest(891, 6, false, 5));
        Scene.asks("the MANY", 7, x -> x.shortest(891, 6, false, 3));
        Scene.asks("none is CALM", -1, x -> x.shortest(81, 6, true, -1));
    }

    private static void said() {
        Scene.at(21, Scene::house);
        Scene.asks("by 1", 0, x -> x.said(1, 0));
        Scene.no("the least by 1", TELL - 5, x -> x.said(1, 1));
        Scene.no("the greatest by 1", TELL - 5, x -> x.said(1, 2));
        Scene.asks("by 2", 4, x -> x.said(2, 0));
        Scene.asks("the least by 2", 6, x -> x.said(2, 1));
        Scene.asks("the greatest by 2", 20, x -> x.said(2, 2));
        Scene.asks("the least by 5", -43, x -> x.said(5, 1));
        Scene.asks("the greatest by 5", 43, x -> x.said(5, 2));
        Scene.no("by 0", TELL - 2, x -> x.said(0, 0));
        Scene.no("by 6", TELL - 2, x -> x.said(6, 0));
        Scene.no("what -1", TELL - 2, x -> x.said(5, -1));
        Scene.no("what 3", TELL - 2, x -> x.said(5, 3));
        Scene.no("what 3 by 1", TELL - 2, x -> x.said(1, 3));
        Scene.no("both", TELL - 2, x -> x.said(6, 3));
        Scene.at(21, Scene::ten);
        Scene.asks("81", 1, x -> x.said(2, 0));
        Scene.asks("and 90, 810, -81", 4, x -> x.said(3, 0));
        Scene.asks("and -90, -810, 819, 171", 8, x -> x.said(4, 0));
        Scene.asks("and -819, -171, 162", 11, x -> x.said(5, 0));
        Scene.asks("the least by 4", -810, x -> x.said(4, 1));
        Scene.asks("the least by 5 of 10", -819, x -> x.said(5, 1));
        Scene.asks("the greatest by 4", 819, x -> x.said(4, 2));
        Scene.asks("the greatest by 5 of 10, not 891", 819, x -> x.said(5, 2));
        Scene.at(21, EdgesTest::two);
        Scene.asks("one MEANING", 1, x -> x.said(2, 0));
        Scene.asks("the least of one", 12, x -> x.said(2, 1));
        Scene.asks("the greatest of one", 12, x -> x.said(5, 2));
        Scene.fine("none, once one is dead", 0, x -> after(x.said(5, 0), 1, after(x.dies(0), 1, x.said(5, 0))));
        Scene.fine("none, once all are dead", 0, x -> {
            int one = x.said(5, 0);
            x.dies(0);
            x.dies(1);
            return after(one, 1, x.said(5, 0));
        });
        Scene.fine("one, once there is one who says it", 1, x -> {
            x.dies(0);
            int none = x.said(5, 0);
            x.brother(1, 3, 0);
            return after(none, 0, x.said(5, 0));
        });
        // 0 1: 12; 2 1: 20; 0 1 2: 17; 2 1 0: 23
        Scene.at(21, () -> three(1, 5));
        Scene.asks("the greatest by 2, the last", 20, x -> x.said(2, 2));
        Scene.asks("the greatest by 3, the last", 23, x -> x.said(3, 2));
        // 0 1: 12; 2 1: 4; 0 1 2: 13; 2 1 0: 7
        Scene.at(21, () -> three(1, 1));
        Scene.asks("the greatest by 2, the first", 12, x -> x.said(2, 2));
        Scene.asks("the greatest by 3", 13, x -> x.said(3, 2));
        Scene.asks("the least by 3, by 2", 4, x -> x.said(3, 1));
        // 0 1: 12; 0 2 1: -12
        Scene.at(21, () -> three(4, 5));
        Scene.asks("the least by 2, not by 3", 12, x -> x.said(2, 1));
        Scene.asks("the least by 3, a NOT", -12, x -> x.said(3, 1));
        for (int i = 0; i < 2; i++) {
            Scene.at(21, i == 0 ? Scene::empty : Scene::dead);
            Scene.asks("of nobody", 0, x -> x.said(5, 0));
            Scene.no("of nobody, the least", TELL - 5, x -> x.said(5, 1));
            Scene.no("of nobody, the greatest", TELL - 5, x -> x.said(5, 2));
            Scene.no("of nobody, by 6", TELL - 2, x -> x.said(6, 1));
        }
    }

    private static void many() {
        Scene.at(22, Scene::house);
        Scene.asks("of 1", 0, x -> x.many(1, 0));
        Scene.asks("of 1, CALM", 0, x -> x.many(1, 1));
        Scene.asks("of 2", 4, x -> x.many(2, 0));
        Scene.asks("of 2, but 3 6", 3, x -> x.many(2, 1));
        // N D A M N D, M N D A N D, N D A N T D, N T D A N D: 4 each
        Scene.asks("of 6", 16, x -> x.many(6, 0));
        Scene.asks("of 6, 2 each", 8, x -> x.many(6, 1));
        Scene.no("of 0", -2, x -> x.many(0, 0));
        Scene.no("of 7", -2, x -> x.many(7, 0));
        Scene.no("what -1", -2, x -> x.many(2, -1));
        Scene.no("what 2", -2, x -> x.many(2, 2));
        Scene.no("both", -2, x -> x.many(7, 2));
        Scene.fine("who feuds with one who isn't in it", 4, x -> after(x.feud(3, 6, false), 1, after(x.feud(3, 0, true), 0, x.many(2, 1))));
        Scene.at(22, Scene::ten);
        // N D 12; M N D 12, N T D 12, N D N 36; M N T D 12, M N D N 36, N T D N 36, N D M N 36;
        // M N T D N 36, N T D M N 36, N D A N D 72; with M 72, with T 72, with N 144, in the first CLAUSE or the second
        int[] want = {0, 0, 12, 60, 120, 144, 576};
        for (int i = 1; i <= 6; i++) {
            int n = i;
            Scene.asks("of " + n + " of 10", want[n], x -> x.many(n, 0));
            Scene.asks("of " + n + " of 10, CALM", 0, x -> x.many(n, 1));
        }
        Scene.at(22, Scene::empty);
        Scene.asks("of nobody", 0, x -> x.many(6, 0));
        Scene.at(22, Scene::dead);
        Scene.asks("of the dead", 0, x -> x.many(2, 0));
    }

    private static void who() {
        Scene.at(23, Scene::house);
        Scene.asks("begin: 0, 2, 3", 1 + 4 + 8, x -> x.who(0));
        Scene.asks("end: 0, 1, 3, 6", 1 + 2 + 8 + 64, x -> x.who(1));
        Scene.asks("stand in none: the WORD, not the dead", 128, x -> x.who(2));
        Scene.no("what -1", -2, x -> x.who(-1));
        Scene.no("what 3", -2, x -> x.who(3));
        Scene.fine("who die don't begin", 4 + 8, x -> after(x.dies(0), 7, x.who(0)));
        // N D A N D wants two NAMES
        Scene.fine("an AND that none may stand by", 32 + 128, x -> after(x.dies(0), 7, x.who(2)));
        Scene.at(23, EdgesTest::two);
        Scene.asks("of one SAYING", 1, x -> x.who(0));
        Scene.asks("of one SAYING, the end", 2, x -> x.who(1));
        Scene.asks("of one SAYING, nobody else", 0, x -> x.who(2));
        Scene.at(23, Scene::ten);
        Scene.asks("begin", 1 + 2 + 4 + 8 + 128, x -> x.who(0));
        Scene.asks("end", 127, x -> x.who(1));
        Scene.asks("stand in none", 0, x -> x.who(2));
        Scene.at(23, EdgesTest::tenOfAKind);
        Scene.asks("10 begin none", 0, x -> x.who(0) + x.who(1));
        Scene.asks("10 stand in none", 1023, x -> x.who(2));
        Scene.at(23, Scene::empty);
        Scene.asks("nobody", 0, x -> x.who(0) + x.who(1) + x.who(2));
        Scene.at(23, Scene::dead);
        Scene.asks("the dead", 0, x -> x.who(0) + x.who(1) + x.who(2));
    }

    private static void nearest() {
        Scene.at(24, Scene::house);
        Scene.asks("to 9999", 43, x -> x.nearest(9999));
        Scene.asks("to -9999", -43, x -> x.nearest(-9999));
        Scene.asks("to what is said", 12, x -> x.nearest(12));
        Scene.no("to 10000", TELL - 2, x -> x.nearest(10000));
        Scene.no("to -10000", TELL - 2, x -> x.nearest(-10000));
        Scene.no("far", TELL - 2, x -> x.nearest(LEAST));
        Scene.at(24, EdgesTest::two);
        Scene.asks("one MEANING", 12, x -> x.nearest(-9999));
        Scene.at(24, () -> three(1, 5));
        Scene.asks("12, 20, 17, 23", 20, x -> x.nearest(20));
        Scene.asks("12 or 17", 17, x -> x.nearest(15));
        Scene.asks("17 or 20", 17, x -> x.nearest(18));
        Scene.at(24, Scene::ten);
        // 81 and 90; -81 and 81; 162 and 171
        Scene.asks("to 85", 81, x -> x.nearest(85));
        Scene.asks("to 86", 90, x -> x.nearest(86));
        Scene.asks("to 0: the lesser", -81, x -> x.nearest(0));
        Scene.asks("to 1", 81, x -> x.nearest(1));
        Scene.asks("to what 6 say", 819, x -> x.nearest(891));
        for (int i = 0; i < 2; i++) {
            Scene.at(24, i == 0 ? Scene::empty : Scene::dead);
            Scene.no("of nobody", TELL - 5, x -> x.nearest(0));
            Scene.no("of nobody, to 10000", TELL - 2, x -> x.nearest(10000));
        }
    }

    private static void first() {
        Scene.at(25, Scene::house);
        Scene.asks("eldest", 3, x -> x.first(0));
        Scene.asks("youngest, of several the first", 0, x -> x.first(1));
        Scene.asks("most FEUDS, of several the first", 0, x -> x.first(2));
        Scene.fine("not the dead one of 99", 3, x -> after(x.age(8, 99), 20, after(x.dies(0), 7, x.first(0))));
        Scene.fine("not the dead one of 0", 0, x -> after(x.age(8, 0), 20, x.first(1)));
        Scene.fine("AGE 0", 7, x -> after(x.age(7, 0), 20, x.first(1)));
        Scene.fine("of two of 99 the first", 1, x -> after(x.age(1, 99), 20, x.first(0)));
        Scene.no("what -1", -2, x -> x.first(-1));
        Scene.no("what 3", -2, x -> x.first(3));
        Scene.at(25, Scene::ten);
        Scene.asks("of 10", 0, x -> x.first(0) + x.first(1) + x.first(2));
        Scene.fine("the last of 10", 9, x -> after(x.age(9, 98), 99, x.first(1)));
        Scene.fine("most FEUDS of 10", 2, x -> after(x.feud(0, 1, false), 1, x.first(2)));
        for (int i = 0; i < 2; i++) {
            Scene.at(25, i == 0 ? Scene::empty : Scene::dead);
            for (int j = 0; j <= 2; j++) {
                int what = j;
                Scene.no("of nobody, what " + what, -5, x -> x.first(what));
            }
            Scene.no("of nobody, what 3", -2, x -> x.first(3));
            Scene.no("of nobody, what -1", -2, x -> x.first(-1));
        }
    }

    private static void crowd() {
        Scene.at(26, Scene::house);
        Scene.asks("one each, and a dead one", 0, x -> x.crowd());
        Scene.fine("two in the last", 55, x -> after(x.goes(0, 55), 0, x.crowd()));
        Scene.fine("of two pairs the least", 5, x -> after(x.goes(0, 55), 0, after(x.goes(1, 5), 11, x.crowd())));
        Scene.at(26, Scene::ten);
        Scene.asks("10 in one", 23, x -> x.crowd());
        Scene.at(26, Scene::empty);
        Scene.asks("of nobody", 0, x -> x.crowd());
        for (int i = 0; i < 36; i++) {
            int cell = i / 6 * 10 + i % 6;
            Scene.fine("of one in " + cell, cell, x -> after(x.brother(0, 0, cell), 0, x.crowd()));
        }
        Scene.at(26, Scene::dead);
        Scene.asks("of the dead", 0, x -> x.crowd());
    }

    private static void gather() {
        Scene.at(27, Scene::house);
        // one in each corner: 3 steps down or up and 3 to the side at the fewest
        Scene.asks("all corners", 22, x -> x.gather());
        Scene.at(27, Scene::ten);
        Scene.asks("10 in one", 23, x -> x.gather());
        Scene.fine("one 6 steps off: 3 each", 20, x -> after(x.goes(0, 50), 23, x.gather()));
        Scene.fine("one 4 steps off: 2 each, the least", 3, x -> after(x.goes(0, 5), 23, x.gather()));
        Scene.at(27, Scene::empty);
        Scene.asks("of nobody", 0, x -> x.gather());
        for (int i = 0; i < 36; i++) {
            int cell = i / 6 * 10 + i % 6;
            Scene.fine("of one in " + cell, cell, x -> after(x.brother(0, 0, cell), 0, x.gather()));
        }
        Scene.at(27, Scene::dead);
        Scene.asks("of the dead", 0, x -> x.gather());
    }

    private static void alone() {
        Scene.at(28, Scene::house);
        Scene.asks("FEUDS with the dead don't count", 2 + 4 + 32 + 128, x -> x.alone());
        Scene.fine("nor once he is dead", 2 + 4 + 16 + 32 + 128, x -> after(x.dies(0), 7, x.alone()));
        Scene.at(28, Scene::ten);
        Scene.asks("all feud", 0, x -> x.alone());
        Scene.at(28, EdgesTest::tenOfAKind);
        Scene.asks("none feud", 1023, x -> x.alone());
        Scene.at(28, Scene::empty);
        Scene.asks("of nobody", 0, x -> x.alone());
        Scene.at(28, Scene::dead);
        Scene.asks("of the dead", 0, x -> x.alone());
    }

    private static void lasting() {
        Scene.at(29, Scene::empty);
        Scene.asks("of nobody", 1000000, x -> x.lasting());
        Scene.at(29, Scene::dead);
        Scene.asks("of the dead", 1000000, x -> x.lasting());
        Scene.at(29, Scene::house);
        // 895000, 801025, 716917; 99 stays 99: 362043; 324028, 290005, 259554, 232300
        Scene.asks("of 8", 232300, x -> x.lasting());
        Scene.at(29, Scene::ten);
        // 505000, 255025, 128787, 65037, 32843, 16585, 8375, 4229, 2135, 1078
        Scene.asks("10 of 99", 1078, x -> x.lasting());
        Scene.at(29, EdgesTest::one);
        Scene.fine("AGE 0 is 1 then", 995000, x -> after(x.age(0, 0), 20, x.lasting()));
        Scene.fine("AGE 97 is 98 then", 510000, x -> after(x.age(0, 97), 20, x.lasting()));
        Scene.fine("AGE 98 is 99 then", 505000, x -> after(x.age(0, 98), 20, x.lasting()));
        Scene.fine("AGE 99 is 99 then", 505000, x -> after(x.age(0, 99), 20, x.lasting()));
    }

    /** One who says nothing. */
    private static VowOfOneWord one() {
        VowOfOneWord x = new VowOfOneWord();
        x.brother(0, 0, 0);
        return x;
    }

    private static void longest() {
        Scene.at(30, Scene::house);
        Scene.asks("6, though 7 could", 6, x -> x.longest(0));
        Scene.asks("CALM", 6, x -> x.longest(1));
        Scene.no("what -1", -2, x -> x.longest(-1));
        Scene.no("what 2", -2, x -> x.longest(2));
        Scene.at(30, Scene::ten);
        Scene.asks("of 10", 6, x -> x.longest(0));
        Scene.asks("of 10, CALM", 0, x -> x.longest(1));
        Scene.fine("but two make peace", 2, x -> after(x.feud(0, 4, false), 1, x.longest(1)));
        Scene.at(30, Scene::empty);
        Scene.asks("of nobody", 0, x -> x.longest(0) + x.longest(1));
        Scene.no("of nobody, what 2", -2, x -> x.longest(2));
        Scene.at(30, EdgesTest::two);
        Scene.asks("of one SAYING", 2, x -> x.longest(0));
        Scene.asks("of one SAYING, CALM", 2, x -> x.longest(1));
        Scene.fine("of one SAYING, not CALM", 0, x -> after(x.feud(0, 1, true), 0, x.longest(1)));
        Scene.at(30, EdgesTest::tenOfAKind);
        Scene.asks("of 10 ANDS", 0, x -> x.longest(0));
    }

    private static void met() {
        Scene.at(31, Scene::house);
        Scene.asks("all", 7, x -> x.met());
        Scene.at(31, Scene::ten);
        Scene.asks("all but the one by 6", 127, x -> x.met());
        Scene.at(31, Scene::empty);
        Scene.asks("of nobody, no NEEDS", 0, x -> x.met());
        Scene.fine("of nobody, 0", 0, x -> after(x.need(0), 0, x.met()));
        Scene.at(31, Scene::dead);
        Scene.asks("of the dead", 0, x -> x.met());
        Scene.at(31, EdgesTest::eightNeeds);
        Scene.asks("8 alike", 255, x -> x.met());
        Scene.fine("CALM or not", 255, x -> after(x.feud(0, 1, true), 0, x.met()));
    }

    /** NAME 0 of 3 and DEED 1 of 4: 12 is all that can be said. */
    private static VowOfOneWord two() {
        VowOfOneWord x = new VowOfOneWord();
        x.brother(1, 3, 0);
        x.brother(2, 4, 0);
        return x;
    }

    /** And BROTHER 2. */
    private static VowOfOneWord three(int kind, int a) {
        VowOfOneWord x = two();
        x.brother(kind, a, 0);
        return x;
    }

    /** A NAME of 0 and a DEED of 0, and 8 NEEDS of 0. */
    private static VowOfOneWord eightNeeds() {
        VowOfOneWord x = new VowOfOneWord();
        x.brother(1, 0, 0);
        x.brother(2, 0, 0);
        for (int need = 0; need < 8; need++) {
            x.need(0);
        }
        return x;
    }

    private static void without() {
        Scene.at(32, Scene::house);
        Scene.asks("WITHOUT the NAME of 3", 7, x -> x.without(0, 0));
        Scene.asks("his POWER", 3, x -> x.without(0, 1));
        Scene.asks("WITHOUT the WORD", 0, x -> x.without(7, 0));
        Scene.asks("its POWER", 0, x -> x.without(7, 1));
        Scene.no("the dead", -5, x -> x.without(8, 0));
        Scene.no("the dead, what 1", -5, x -> x.without(8, 1));
        Scene.no("the dead, what 2", -2, x -> x.without(8, 2));
        Scene.no("BROTHER -1", -2, x -> x.without(-1, 0));
        Scene.no("BROTHER 9", -2, x -> x.without(9, 0));
        Scene.no("what -1", -2, x -> x.without(0, -1));
        Scene.no("what 2", -2, x -> x.without(0, 2));
        Scene.no("both", -2, x -> x.without(9, 2));
        Scene.at(32, Scene::ten);
        Scene.asks("WITHOUT the NOT: -81, -90, -810", 8 + 16 + 32, x -> x.without(8, 0));
        Scene.asks("WITHOUT the MANY: 810, -810", 4 + 32, x -> x.without(7, 0));
        Scene.asks("WITHOUT the AND: 162", 64, x -> x.without(9, 0));
        Scene.asks("WITHOUT one of 4 NAMES", 0, x -> x.without(3, 0));
        Scene.no("BROTHER 10 of 10", -2, x -> x.without(10, 0));
        Scene.at(32, EdgesTest::eightNeeds);
        Scene.asks("8 NEEDS", 255, x -> x.without(1, 0));
        Scene.asks("a POWER of 8", 8, x -> x.without(1, 1));
        Scene.at(32, Scene::empty);
        Scene.no("of no BROTHERS", -2, x -> x.without(0, 0));
    }

    private static void mightiest() {
        Scene.at(33, Scene::house);
        Scene.asks("the NAME of 3", 0, x -> x.mightiest());
        Scene.at(33, Scene::ten);
        Scene.asks("the NOT", 8, x -> x.mightiest());
        Scene.at(33, EdgesTest::eightNeeds);
        Scene.asks("of several the first", 0, x -> x.mightiest());
        Scene.at(33, EdgesTest::tenOfAKind);
        Scene.asks("no POWER: the first", 0, x -> x.mightiest());
        Scene.fine("no POWER: the first who LIVES", 1, x -> after(x.dies(0), 9, x.mightiest()));
        Scene.at(33, Scene::empty);
        Scene.no("of nobody", -5, x -> x.mightiest());
        Scene.at(33, Scene::dead);
        Scene.no("of the dead", -5, x -> x.mightiest());
    }

    private static void choice() {
        Scene.at(34, Scene::house);
        Scene.asks("none is better", 0, x -> x.choice(0));
        Scene.asks("how many", 3, x -> x.choice(1));
        Scene.no("what -1", -2, x -> x.choice(-1));
        Scene.no("what 2", -2, x -> x.choice(2));
        Scene.at(34, Scene::ten);
        Scene.no("there are 10", -6, x -> x.choice(0));
        Scene.no("there are 10, how many", -6, x -> x.choice(1));
        Scene.no("there are 10, what -1", -2, x -> x.choice(-1));
        Scene.no("there are 10, what 2", -2, x -> x.choice(2));
        Scene.at(34, EdgesTest::tenOneDead);
        Scene.no("there are 10, one of them dead", -6, x -> x.choice(0));
        Scene.at(34, Scene::empty);
        Scene.asks("of nobody", 0, x -> x.choice(0) + x.choice(1));
        Scene.at(34, EdgesTest::nine);
        Scene.asks("the 10th: a NAME of 9", 19, x -> x.choice(0));
        Scene.asks("how many then", 8, x -> x.choice(1));
        Scene.at(34, EdgesTest::one);
        Scene.fine("a 9", 19, x -> after(x.brother(2, 9, 0), 1, after(x.need(81), 0, x.choice(0))));
        Scene.fine("no a is 10", 0, x -> after(x.brother(2, 9, 0), 1, after(x.need(90), 0, x.choice(0) + x.choice(1))));
        Scene.fine("a 0", 10, x -> after(x.brother(2, 9, 0), 1, after(x.need(0), 0, x.choice(0))));
        // 0 alone can't be said by one more
        Scene.fine("one more isn't enough", 0, x -> after(x.need(0), 0, x.choice(0) + x.choice(1)));
    }

    private static void choiceAgain() {
        Scene.at(34, EdgesTest::one);
        Scene.fine("when there is nothing to be better in", 0, x -> {
            x.brother(2, 9, 0);
            x.need(81);
            int first = x.choice(0);
            x.brother(1, 9, 0);
            return after(first, 19, x.choice(0));
        });
        Scene.fine("how many, then", 1, x -> {
            x.brother(2, 9, 0);
            x.need(81);
            int first = x.choice(1);
            x.brother(1, 9, 0);
            return after(first, 1, x.choice(1));
        });
    }

    private static void choiceByTheLast() {
        // 10 can begin SAYINGS of 5 in no more ways; 73 = (1 + 1) * 7 * 5 + (2 + 1) * 1 is said by the last by rows alone
        Scene.at(34, EdgesTest::threeManyTwoDeedsFourNames);
        Scene.asks("a MANY of 1", 31, x -> x.choice(0));
        Scene.asks("how many then, by the last by rows", 1, x -> x.choice(1));
        Scene.asks("how many have it now", 0, x -> x.met());
        Scene.fine("the last by rows", 98427, x -> {
            x.brother(3, 1, 0);
            int row = 0;
            for (int i = 0; i < 5; i++) {
                row = 10 * row + x.shortest(73, 5, false, i);
            }
            return row;
        });
        // 101 = 8 * 7 + 9 * 5, in two CLAUSES, either of them ahead
        Scene.at(34, EdgesTest::threeDeedsFourNamesTwoAnds);
        Scene.asks("a NAME of 8", 18, x -> x.choice(0));
        Scene.asks("how many then, in two CLAUSES", 1, x -> x.choice(1));
    }

    private static VowOfOneWord threeManyTwoDeedsFourNames() {
        return ofWords(73, 30, 30, 32, 20, 25, 10, 10, 11, 17);
    }

    /** With one more NAME there are many more beginnings of SAYINGS of 6 than of those of 5. */
    private static VowOfOneWord threeDeedsFourNamesTwoAnds() {
        return ofWords(101, 20, 25, 27, 10, 10, 10, 19, 50, 50);
    }

    private static VowOfOneWord ofWords(int need, int... words) {
        VowOfOneWord x = new VowOfOneWord();
        for (int word : words) {
            x.brother(word / 10, word % 10, 0);
        }
        x.need(need);
        return x;
    }

    /** 8 DEEDS of 9 and a WORD; 8 NEEDS of 81. */
    private static VowOfOneWord nine() {
        VowOfOneWord x = new VowOfOneWord();
        for (int b = 0; b < 9; b++) {
            x.brother(b < 8 ? 2 : 0, 9, 0);
            if (b < 8) {
                x.need(81);
            }
        }
        return x;
    }

    private static void lost() {
        Scene.at(35, Scene::house);
        Scene.asks("one is enough", 1, x -> x.lost(0, -1));
        Scene.asks("he", 0, x -> x.lost(0, 0));
        Scene.no("the 2nd of one", -5, x -> x.lost(0, 1));
        Scene.no("far behind", -5, x -> x.lost(0, MOST));
        Scene.no("i -2", -2, x -> x.lost(0, -2));
        Scene.asks("the last NEED", 1, x -> x.lost(2, -1));
        Scene.no("NEED 3", -2, x -> x.lost(3, -1));
        Scene.no("NEED -1", -2, x -> x.lost(-1, -1));
        Scene.no("NEED 3, and far behind", -2, x -> x.lost(3, MOST));
        Scene.at(35, Scene::ten);
        Scene.asks("two aren't enough", -1, x -> x.lost(0, -1));
        Scene.no("the first of none", -5, x -> x.lost(0, 0));
        Scene.asks("-810: the MANY, ahead of the NOT", 7, x -> x.lost(5, 0));
        Scene.asks("162: the AND", 9, x -> x.lost(6, 0));
        Scene.asks("unmet: none need die", 0, x -> x.lost(7, -1));
        Scene.no("unmet: the first of none", -5, x -> x.lost(7, 0));
        Scene.no("the 9th NEED", -2, x -> x.lost(8, -1));
        // 81 by the DEEDS 4 and 5 alone, once 6 is dead
        Scene.fine("two deeds left", 2, x -> after(x.dies(6), 9, x.lost(0, -1)));
        Scene.fine("they", 45, x -> after(x.dies(6), 9, 10 * x.lost(0, 0) + x.lost(0, 1)));
        // 2 3 7 5 6 8 is 12 less 10, by 6: it doesn't count
        int[] kinds = {1, 1, 1, 2, 1, 4, 5, 2, 2};
        int[] amounts = {1, 1, 3, 4, 5, 0, 0, 2, 2};
        Scene.at(35, () -> sayers(kinds, amounts, 2));
        Scene.asks("2 by one of 0, 1 and one of 7, 8", 2, x -> x.lost(0, -1));
        Scene.asks("two who leave it to six", 1, x -> 10 * x.lost(0, 0) + x.lost(0, 1));
        Scene.fine("one who leaves it to six", 0, x -> after(x.dies(1), 8, x.lost(0, 0)));
        Scene.fine("just one", 1, x -> after(x.dies(1), 8, x.lost(0, -1)));
        Scene.at(35, Scene::empty);
        Scene.no("of no NEEDS", -2, x -> x.lost(0, -1));
        Scene.at(35, Scene::dead);
        Scene.asks("of the dead", 0, x -> x.lost(0, -1));
    }

    private static VowOfOneWord sayers(int[] kinds, int[] amounts, int need) {
        VowOfOneWord x = new VowOfOneWord();
        for (int b = 0; b < kinds.length; b++) {
            x.brother(kinds[b], amounts[b], 0);
        }
        x.need(need);
        return x;
    }

    private static void ran() {
        Scene.at(36, Scene::house);
        Scene.asks("no one", 0, x -> x.ran(0, 0) + x.ran(0, 1));
        Scene.asks("no one: none is first", -1, x -> x.ran(0, 2));
        // 0 1 2 3 5 6: N D A M N D, M N D A N D; 32, 46, 34
        Scene.asks("6: how many", 8, x -> x.ran(111, 0));
        Scene.asks("6: unlike", 3, x -> x.ran(111, 1));
        Scene.asks("6: the first", 0, x -> x.ran(111, 2));
        Scene.asks("6 who say nothing", 0, x -> x.ran(63, 0));
        Scene.asks("6 who say nothing: none is first", -1, x -> x.ran(63, 2));
        Scene.asks("just these: 2 0 1", 1, x -> x.ran(7, 0));
        Scene.asks("just these: the first is 2", 2, x -> x.ran(7, 2));
        Scene.no("7", -2, x -> x.ran(127, 0));
        Scene.no("all 8", -2, x -> x.ran(255, 0));
        Scene.no("the dead", -2, x -> x.ran(256, 0));
        Scene.no("the dead among others", -2, x -> x.ran(256 + 3, 0));
        Scene.no("BROTHER 9", -2, x -> x.ran(512, 0));
        Scene.no("BROTHER 31", -2, x -> x.ran(LEAST, 0));
        Scene.no("all bits", -2, x -> x.ran(-1, 0));
        Scene.no("what -1", -2, x -> x.ran(0, -1));
        Scene.no("what 3", -2, x -> x.ran(0, 3));
        Scene.no("both", -2, x -> x.ran(127, 3));
        Scene.at(36, EdgesTest::two);
        Scene.asks("all there are", 1, x -> x.ran(3, 0));
        Scene.asks("all there are: unlike", 1, x -> x.ran(3, 1));
        Scene.asks("all there are: the first", 0, x -> x.ran(3, 2));
        Scene.asks("one says nothing", 0, x -> x.ran(1, 0) + x.ran(2, 0) + x.ran(1, 1) + x.ran(2, 1));
        Scene.at(36, Scene::ten);
        // 0 1 4 5 7 9
        Scene.asks("6 of 10: all mean 891", 1, x -> x.ran(691, 1));
        Scene.asks("6 of 10: how many", 8, x -> x.ran(691, 0));
        Scene.asks("the last of 10 alone", 0, x -> x.ran(512, 0));
        Scene.no("7 of 10", -2, x -> x.ran(691 + 4, 0));
        Scene.no("BROTHER 10 of 10", -2, x -> x.ran(1024, 0));
        Scene.at(36, Scene::empty);
        Scene.asks("of nobody", -1, x -> x.ran(0, 2));
        Scene.no("of nobody, 0", -2, x -> x.ran(1, 0));
    }

    private static void meant() {
        Scene.at(37, Scene::house);
        Scene.asks("46", 1, x -> x.meant(111, 46));
        Scene.asks("47", 0, x -> x.meant(111, 47));
        Scene.asks("12 by more than these", 0, x -> x.meant(111, 12));
        Scene.asks("9999", 0, x -> x.meant(111, 9999));
        Scene.asks("-9999", 0, x -> x.meant(111, -9999));
        Scene.asks("no one", 0, x -> x.meant(0, 0));
        Scene.no("10000", -2, x -> x.meant(111, 10000));
        Scene.no("-10000", -2, x -> x.meant(111, -10000));
        Scene.no("7", -2, x -> x.meant(127, 46));
        Scene.no("the dead", -2, x -> x.meant(256, 46));
        Scene.no("BROTHER 9", -2, x -> x.meant(512, 46));
        Scene.no("BROTHER 31", -2, x -> x.meant(LEAST, 46));
        Scene.no("both", -2, x -> x.meant(127, 10000));
        Scene.at(37, EdgesTest::two);
        Scene.asks("all there are", 1, x -> x.meant(3, 12));
        Scene.asks("one says nothing", 0, x -> x.meant(1, 12) + x.meant(2, 12) + x.meant(1, 0));
        Scene.at(37, Scene::ten);
        Scene.asks("6 of 10", 1, x -> x.meant(691, 891));
        Scene.no("7 of 10", -2, x -> x.meant(691 + 4, 891));
        Scene.at(37, Scene::empty);
        Scene.asks("of nobody", 0, x -> x.meant(0, 0));
        Scene.no("of nobody, 0", -2, x -> x.meant(1, 0));
    }

    /** What judge(), means(), stands() and done() refuse alike, in the order of their lines. */
    private static void toldRefused(int tell, java.util.function.ToLongBiFunction<VowOfOneWord, int[]> told) {
        int[][] calls = {
            {-1, 0, -2}, {8, 0, -2}, {-1, 41, -2}, {0, -1, -2}, {0, 41, -2}, {3, 41, -2},
            {1, -1, -2}, {1, 41, -2}, {2, -1, -2}, {2, 41, -2},
            {1, 0, -3}, {1, 40, -3}, {7, 3, -3}, {2, 0, -4}, {2, 40, -4},
            {0, 4, -2}, {0, 40, -2}, {4, 1, -2}, {6, 3, -2}, {5, 8, -2},
        };
        for (int[] call : calls) {
            Scene.no("SHELF " + call[0] + ", n " + call[1], tell + call[2], x -> told.applyAsLong(x, call));
        }
    }

    /** Those and: it is WRONG. */
    private static void wrongRefused(int tell, java.util.function.ToLongBiFunction<VowOfOneWord, int[]> told) {
        toldRefused(tell, told);
        int[][] calls = {{0, 0}, {0, 1}, {3, 40}, {3, 1}, {3, 2}, {4, 0}, {5, 3}, {5, 5}, {5, 6}, {6, 1}, {6, 2}};
        for (int[] call : calls) {
            Scene.no("WRONG: SHELF " + call[0] + ", n " + call[1], tell - 5, x -> told.applyAsLong(x, call));
        }
    }

    private static void judge() {
        Scene.at(38, Scene::house);
        toldRefused(0, (x, call) -> x.judge(call[0], call[1]));
        Scene.asks("0 of 3", 0, x -> x.judge(0, 0));
        Scene.asks("0 of 0", 0, x -> x.judge(4, 0));
        Scene.asks("it ends too early", 1, x -> x.judge(0, 1));
        Scene.asks("N D", -1, x -> x.judge(0, 2));
        Scene.asks("all 3", -1, x -> x.judge(0, 3));
        Scene.asks("who stands already", 1, x -> x.judge(3, 40));
        Scene.asks("M N T ends too early", 3, x -> x.judge(5, 3));
        Scene.asks("N D A ends too early", 5, x -> x.judge(5, 5));
        Scene.asks("N D A N ends too early", 6, x -> x.judge(5, 6));
        Scene.asks("7", -1, x -> x.judge(5, 7));
        Scene.asks("a WORD stands nowhere", 1, x -> x.judge(6, 2));
        Scene.asks("but behind the n first", 1, x -> x.judge(6, 1));
        Scene.fine("who doesn't LIVE", 0, x -> after(x.set(0, 0, 8), 1, x.judge(0, 3)));
        Scene.fine("nobody: 9", 2, x -> after(x.set(0, 2, 9), 1, x.judge(0, 3)));
        Scene.fine("nobody: -1", 2, x -> after(x.set(0, 2, -1), 1, x.judge(0, 3)));
        Scene.fine("nobody, and no word: the first of them", 1, x -> after(x.set(0, 1, -1), 1, after(x.set(0, 2, 7), 1, x.judge(0, 3))));
        Scene.fine("a NOT is no DEED", 2, x -> after(x.set(0, 1, 4), 1, x.judge(0, 3)));
        Scene.fine("a NOT is no THING", 0, x -> after(x.set(0, 0, 4), 1, x.judge(0, 3)));
        Scene.fine("a MANY is no NAME", 1, x -> after(x.set(0, 0, 2), 1, x.judge(0, 2)));
        Scene.at(38, Scene::empty);
        Scene.fine("of nobody", 0, x -> after(x.row(0, 0, 40), 1, x.judge(0, 40)));
        Scene.fine("no word of nobody", 0, x -> after(x.row(0, 0, 0), 1, x.judge(0, 0)));
        Scene.no("of NOTHING", -4, x -> x.judge(0, 0));
    }

    /** After each beginning of a SAYING: the words that can stand there, and that no others can. */
    private static void judgeWords() {
        String[][] goesOn = {
            {"", "MN"}, {"M", "N"}, {"N", "DT"}, {"MN", "DT"}, {"NT", "D"}, {"MNT", "D"},
            {"ND", "MNA"}, {"MND", "MNA"}, {"NTD", "MNA"}, {"NDM", "N"}, {"NTDM", "N"}, {"NDN", "A"}, {"NDMN", "A"},
            {"NDA", "MN"}, {"NDNA", "MN"}, {"NDMNA", "MN"}, {"NDAM", "N"}, {"NDNAM", "N"}, {"NDAN", "DT"}, {"NDAMN", "DT"},
            {"NDANT", "D"}, {"NDAND", "MNA"}, {"NDANDM", "N"}, {"NDANDN", "A"}, {"NDANDA", "MN"}, {"NDNANDNA", "MN"},
        };
        for (String[] row : goesOn) {
            int length = row[0].length();
            for (char word : "WNDMTA".toCharArray()) {
                boolean isFine = row[1].indexOf(word) >= 0;
                boolean isWhole = isFine && (word == 'D' || (word == 'N' && row[0].matches(".*DM?")));
                Scene.at(38, () -> tellers(row[0] + word));
                Scene.asks(row[0] + " " + word, isWhole ? -1 : isFine ? length + 1 : length, x -> x.judge(0, length + 1));
                if (!isFine) {
                    Scene.at(38, () -> tellers(row[0] + word + "N"));
                    Scene.asks(row[0] + " " + word + " N", length, x -> x.judge(0, length + 2));
                }
            }
        }
    }

    /** BROTHERS of such words, and a ROW of them. */
    private static VowOfOneWord tellers(String words) {
        VowOfOneWord x = new VowOfOneWord();
        int[] row = new int[words.length()];
        for (int b = 0; b < row.length; b++) {
            row[b] = x.brother("WNDMTA".indexOf(words.charAt(b)), 1, 0);
        }
        Scene.put(x, 0, row);
        return x;
    }

    /** M N T D M N A N D N, of 0 to 9 in this order, and 8 the NAME that stands twice. */
    private static VowOfOneWord tenInARow() {
        VowOfOneWord x = new VowOfOneWord();
        char[] kinds = "3142315121".toCharArray();
        for (int b = 0; b < 10; b++) {
            x.brother(kinds[b] - '0', b == 4 ? 0 : b, 0);
        }
        x.row(0, 0, 40);
        for (int i = 0; i < 40; i++) {
            x.set(0, i, i % 10);
        }
        return x;
    }

    private static void judgeOfTen() {
        Scene.at(38, EdgesTest::tenInARow);
        Scene.asks("10 say", -1, x -> x.judge(0, 10));
        Scene.asks("the 11th stands already", 10, x -> x.judge(0, 11));
        Scene.asks("40 elements", 10, x -> x.judge(0, 40));
        Scene.asks("9 say", -1, x -> x.judge(0, 9));
        Scene.asks("8 end too early", 8, x -> x.judge(0, 8));
        Scene.no("41 elements", -2, x -> x.judge(0, 41));
        // -((0 + 1) * 1 * 3 + (0 + 1) * 5) + 7 * 8 + 9
        Scene.asks("39: what 10 mean", 57, x -> x.means(0, 10));
        Scene.asks("39: what 9 mean", 48, x -> x.means(0, 9));
        Scene.asks("40: side by side", 0, x -> x.stands(0, 10, 2));
        Scene.fine("40: the last two", 1, x -> after(x.feud(8, 9, true), 0, x.stands(0, 10, 2)));
        Scene.no("40: 10 have no COLUMN", -5, x -> x.stands(0, 10, 1));
        Scene.no("41: 10 aren't said in truth", -5, x -> x.done(0, 10));
        Scene.fine("41: 6 are", 1, x -> x.done(0, 6));
    }

    private static void means() {
        Scene.at(39, Scene::house);
        wrongRefused(TELL, (x, call) -> x.means(call[0], call[1]));
        Scene.asks("2", 12, x -> x.means(0, 2));
        Scene.asks("3", 17, x -> x.means(0, 3));
        Scene.asks("4, a NOT", -24, x -> x.means(5, 4));
        Scene.asks("7", -14, x -> x.means(5, 7));
        Scene.at(39, EdgesTest::eightNeeds);
        Scene.fine("0", 0, x -> after(x.row(0, 0, 2), 1, after(x.set(0, 1, 1), 1, x.means(0, 2))));
        Scene.at(39, Scene::ten);
        Scene.fine("M N T D", -810, x -> {
            Scene.put(x, 0, 7, 0, 8, 4);
            return x.means(0, 4);
        });
        Scene.fine("M N T D N, the most below 0", -819, x -> {
            Scene.put(x, 0, 7, 0, 8, 4, 1);
            return x.means(0, 5);
        });
        Scene.fine("the NOT is of its CLAUSE alone", 810 - 81, x -> {
            Scene.put(x, 0, 7, 0, 5, 9, 1, 8, 4);
            return x.means(0, 7);
        });
    }

    private static void stands() {
        Scene.at(40, Scene::house);
        for (int i = 0; i <= 2; i++) {
            int what = i;
            wrongRefused(0, (x, call) -> x.stands(call[0], call[1], what));
        }
        int[][] calls = {{0, 3}, {0, 1}, {0, 4}, {1, 0}, {2, 0}, {5, 7}, {8, 0}, {0, 41}};
        for (int[] call : calls) {
            Scene.no("what -1 of SHELF " + call[0], -2, x -> x.stands(call[0], call[1], -1));
            Scene.no("what 3 of SHELF " + call[0], -2, x -> x.stands(call[0], call[1], 3));
        }
        // from 1: 1, 2 and 3 steps
        Scene.asks("SOON", 3, x -> x.stands(0, 3, 0));
        Scene.asks("that COLUMN", 1, x -> x.stands(0, 3, 1));
        Scene.asks("CALM", 0, x -> x.stands(0, 3, 2));
        Scene.no("SOON of 7", -5, x -> x.stands(5, 7, 0));
        Scene.no("the COLUMN of 7", -5, x -> x.stands(5, 7, 1));
        Scene.asks("FEUDS of 7", 2, x -> x.stands(5, 7, 2));
        Scene.fine("0, who isn't in it, and the first and last of it", 0, x -> {
            Scene.put(x, 0, 3, 1);
            x.feud(0, 3, true);
            x.feud(0, 1, true);
            return x.stands(0, 2, 2);
        });
        Scene.at(40, Scene::ten);
        Scene.fine("6, from COLUMN 0", 0, x -> {
            Scene.put(x, 0, 0, 4, 9, 7, 1, 5);
            return x.stands(0, 6, 1);
        });
        // 2 steps down, and from 3 to 0 or to 5
        Scene.fine("6: SOON", 5, x -> {
            Scene.put(x, 0, 0, 4, 9, 7, 1, 5);
            return x.stands(0, 6, 0);
        });
        Scene.fine("6: all feud", 5, x -> {
            Scene.put(x, 0, 0, 4, 9, 7, 1, 5);
            return x.stands(0, 6, 2);
        });
        // from 2: 3 and 2 steps; from 3: 2 and 3
        Scene.fine("2: of several the first", 2, x -> {
            Scene.put(x, 0, 0, 4);
            return x.stands(0, 2, 1);
        });
        Scene.fine("2: to the last COLUMN", 4, x -> {
            Scene.put(x, 0, 0, 4);
            x.goes(0, 55);
            x.goes(4, 55);
            return x.stands(0, 2, 1);
        });
        // from 2: 8 and 8 steps
        Scene.fine("2: from the far corners", 8, x -> {
            Scene.put(x, 0, 0, 4);
            x.goes(0, 55);
            x.goes(4, 50);
            return x.stands(0, 2, 0);
        });
    }

    private static void done() {
        Scene.at(41, Scene::house);
        wrongRefused(0, (x, call) -> x.done(call[0], call[1]));
        Scene.no("7", -5, x -> x.done(5, 7));
        Scene.fine("the first", 1, x -> x.done(0, 3));
        Scene.fine("the second", 2, x -> after(x.done(0, 3), 1, x.done(0, 2)));
        Scene.fine("where they stand", 10203, x -> after(x.done(0, 3), 1,
            10000 * x.brotherOf(0, 2) + 100 * x.brotherOf(1, 2) + x.brotherOf(3, 2)));
        Scene.fine("who isn't in it", 22, x -> after(x.done(0, 3), 1, x.brotherOf(2, 2)));
        Scene.fine("0, who isn't in it", 55, x -> {
            x.goes(0, 55);
            Scene.put(x, 0, 3, 1);
            return after(x.done(0, 2), 1, x.brotherOf(0, 2));
        });
        Scene.fine("SEED stays", 77, x -> after(x.done(0, 3), 1, x.status(7)));
        Scene.at(41, Scene::ten);
        Scene.fine("6 fill the ROW", 5, x -> {
            Scene.put(x, 0, 0, 4, 9, 7, 1, 5);
            return after(x.done(0, 6), 1, x.brotherOf(5, 2) + x.brotherOf(0, 2));
        });
    }

    private static void peace() {
        Scene.at(42, Scene::house);
        // 0 4: 0 4 1, 0 4 6. 3 6: 3 6 0, 0 6 3, 2 3 6
        Scene.asks("of 3", 36, x -> x.peace(3));
        Scene.no("of 2", -2, x -> x.peace(2));
        Scene.no("of 6", -2, x -> x.peace(6));
        Scene.no("far", -2, x -> x.peace(LEAST));
        Scene.fine("the dead one's FEUD alone", 78, x -> after(x.feud(0, 4, false), 1, after(x.feud(3, 6, false), 1, x.peace(3))));
        Scene.at(42, Scene::people);
        for (int i = 3; i <= 5; i++) {
            int n = i;
            Scene.asks("there are none, of " + n, -1, x -> x.peace(n));
        }
        Scene.no("there are none, of 2", -2, x -> x.peace(2));
        Scene.no("there are none, of 6", -2, x -> x.peace(6));
        // N D A N D: 3 1 5 0 6, 0 1 5 3 6 have 1 5; 0 1 5 3 6, 0 6 5 3 1 have 5 3
        Scene.fine("of 5: one in just one each, the first", 15, x -> {
            x.feud(3, 5, true);
            x.feud(1, 5, true);
            return x.peace(5);
        });
        // of 5: 2 0 4 1 3, 3 4 1 2 0 have 1 4 alone; 2 3 4 6 0, 0 4 6 2 3 have 2 3 alone; of 4 more have 2 3
        Scene.fine("of 5, not of 4", 14, x -> {
            x.feud(1, 4, true);
            x.feud(2, 3, true);
            return x.peace(5);
        });
        Scene.fine("of 4", 23, x -> {
            x.feud(1, 4, true);
            x.feud(2, 3, true);
            return x.peace(4);
        });
        // 3 4 1, 3 4 6 have 3 4; 3 1 0, 3 6 0 don't have 0 and 3 side by side
        Scene.fine("of 3, the first of a SAYING stands by one alone", 34, x -> {
            x.feud(0, 3, true);
            x.feud(3, 4, true);
            return x.peace(3);
        });
        Scene.fine("of 3, with no AND: the first", 15, x -> {
            x.feud(3, 5, true);
            x.feud(1, 5, true);
            return x.peace(3);
        });
        Scene.fine("of 3, with no AND: the other", 36, x -> {
            x.feud(3, 6, true);
            x.feud(1, 5, true);
            return x.peace(3);
        });
        Scene.at(42, Scene::ten);
        for (int i = 3; i <= 5; i++) {
            int n = i;
            Scene.asks("all feud: one peace makes none CALM, of " + n, 1, x -> x.peace(n));
        }
        Scene.at(42, Scene::empty);
        Scene.asks("of nobody", -1, x -> x.peace(3));
        Scene.at(42, EdgesTest::tenOfAKind);
        Scene.fine("the last two", 89, x -> after(x.feud(9, 8, true), 0, x.peace(5)));
    }

    private static void years() {
        Scene.at(43, Scene::empty);
        Scene.asks("1 of nobody", 0, x -> x.years(1));
        Scene.asks("50 of nobody", 0, x -> x.years(50));
        Scene.no("0", -2, x -> x.years(0));
        Scene.no("51", -2, x -> x.years(51));
        Scene.no("-1", -2, x -> x.years(-1));
        Scene.at(43, Scene::dead);
        Scene.asks("of the dead", 0, x -> x.years(50));
        Scene.at(43, Scene::house);
        Scene.no("0 of 8", -2, x -> x.years(0));
        Scene.no("51 of 8", -2, x -> x.years(51));
        Scene.fine("AGE of the dead stays", 20, x -> {
            x.years(50);
            return x.brotherOf(8, 3);
        });
        Scene.fine("where he was stays", 33, x -> {
            x.years(50);
            return x.brotherOf(3, 2);
        });
        Scene.at(43, EdgesTest::one);
        // the first DRAW from SEED 1 is 38: 1103527590 by 65536 is 16838
        Scene.fine("one year is one DRAW", 1103527590, x -> after(x.years(1), 0, x.status(7)));
        Scene.fine("AGE 20 is 21", 21, x -> after(x.years(1), 0, x.brotherOf(0, 3)));
        Scene.fine("AGE 37 is 38: he LIVES", 38, x -> after(x.age(0, 37), 20, after(x.years(1), 0, x.brotherOf(0, 3))));
        Scene.fine("AGE 38 is 39: he dies", 39, x -> after(x.age(0, 38), 20, after(x.years(1), 1, x.brotherOf(0, 3))));
        Scene.fine("AGE 98 is 99", 99, x -> after(x.age(0, 98), 20, after(x.years(1), 1, x.brotherOf(0, 3))));
        Scene.fine("AGE 99 stays", 99, x -> after(x.age(0, 99), 20, after(x.years(1), 1, x.brotherOf(0, 3))));
        Scene.fine("he doesn't LIVE", 0, x -> after(x.age(0, 99), 20, after(x.years(1), 1, x.status(1))));
        Scene.fine("no DRAW for the dead", 1103527590, x -> after(x.age(0, 38), 20, after(x.years(50), 1, x.status(7))));
        Scene.fine("nor one year more", 39, x -> after(x.age(0, 38), 20, after(x.years(50), 1, x.brotherOf(0, 3))));
    }

    /** One of AGE v (he is one more then) and a SEED: what it is then, and whether he died. */
    private static void drawn(int seed, int v, int died, int then) {
        Scene.fine("SEED " + seed + ", AGE " + v, then, x -> {
            x.age(0, v);
            x.seed(seed);
            return after(x.years(1), died, x.status(7));
        });
    }

    private static void draws() {
        Scene.at(43, EdgesTest::one);
        // 1103527590 is drawn as 38; then 2524885223, less 2 to the 32nd, by 65536 is 38526: 126
        drawn(1, 37, 0, 1103527590);
        drawn(1, 38, 1, 1103527590);
        drawn(1103527590, 99, 0, -1770082073);
        // 12345 is drawn as 0: AGE 1 is above it
        drawn(0, 0, 1, 12345);
        // 3191464396 by 65536 is 48697: 97
        drawn(-1, 96, 0, -1103502900);
        drawn(-1, 97, 1, -1103502900);
        // 1043980748 by 65536 is 15929: 129
        drawn(MOST, 99, 0, 1043980748);
        // 2147495993 by 65536 is 32768: 168
        drawn(LEAST, 99, 0, -2147471303);
        Scene.at(43, Scene::ten);
        Scene.fine("by numbers: 38 for the first", 0, x -> {
            x.years(1);
            return x.brotherOf(0, 5);
        });
        Scene.fine("by numbers: 126 for the second", 1, x -> {
            x.years(1);
            return x.brotherOf(1, 5);
        });
    }

    private static void seed() {
        Scene.at(44, Scene::house);
        for (int v : new int[] {LEAST, -1, 0, 1, MOST}) {
            Scene.fine("SEED " + v, v, x -> after(x.seed(v), 77, x.status(7)));
        }
        Scene.asks("as it was", 77, x -> x.seed(77));
        Scene.at(44, Scene::empty);
        Scene.asks("at first", 1, x -> x.seed(1));
    }

    private static void image() {
        Scene.at(45, Scene::empty);
        Scene.fine("of nobody", 1, x -> x.image());
        Scene.fine("all is gone again", 0, x -> {
            x.image();
            x.brother(1, 1, 1);
            x.need(1);
            x.seed(5);
            x.back();
            return x.status(0) + x.status(2) + x.status(7) - 1;
        });
        Scene.at(45, Scene::ten);
        Scene.fine("of 10, all NEEDS and FEUDS", 10 + 8 + 45 + 990, x -> {
            x.image();
            x.feud(0, 1, false);
            x.age(9, 0);
            x.dies(9);
            x.back();
            return x.status(1) + x.status(2) + x.status(3) + x.status(5);
        });
        Scene.at(45, Scene::house);
        Scene.fine("in place of the one ahead", 3, x -> after(x.image(), 1, after(x.back(), 1, x.status(2))));
        Scene.fine("SAYINGS and where they stood", 11, x -> {
            x.done(0, 2);
            x.image();
            x.done(0, 3);
            x.goes(1, 44);
            x.back();
            return 10 * x.status(4) + x.brotherOf(1, 2);
        });
        Scene.fine("what is kept is not what is done later", 20, x -> {
            x.image();
            x.age(0, 5);
            x.need(5);
            x.back();
            x.age(0, 6);
            x.back();
            return x.brotherOf(0, 3);
        });
    }

    private static void back() {
        Scene.at(46, Scene::empty);
        Scene.no("nothing was kept", -5, x -> x.back());
        Scene.at(46, Scene::ten);
        Scene.no("nothing was kept of 10", -5, x -> x.back());
        Scene.at(46, Scene::house);
        Scene.fine("NEEDS", 2, x -> after(x.back(), 1, x.status(2)));
        Scene.fine("FEUDS", 1, x -> after(x.back(), 1, x.status(3)));
        Scene.fine("SEED", 1, x -> after(x.back(), 1, x.status(7)));
        Scene.fine("AGE", 20, x -> after(x.back(), 1, x.brotherOf(3, 3)));
        Scene.fine("THE TAPE stays", 6, x -> after(x.back(), 1, x.status(6)));
        Scene.fine("REFUSALS stay", 1, x -> after(x.back(), 1, x.status(13)));
        Scene.fine("a ROW stays", 2041536, x -> after(x.back(), 1, digits(x, 5, 7)));
        Scene.fine("a ROW of 40 stays", 7, x -> after(x.back(), 1, x.element(3, 39)));
        Scene.fine("the last BROTHER of these", 18, x -> after(x.back(), 1, x.holds(7)));
        Scene.fine("the first who was not there", -1, x -> {
            x.brother(0, 0, 0);
            x.show(7, 9);
            return after(x.back(), 1, x.holds(7));
        });
        Scene.fine("twice", 2, x -> after(x.back(), 1, after(x.back(), 1, x.status(2))));
        Scene.at(46, Scene::empty);
        // beside a NAME of 2 and a DEED of 5 first this one was asked about, then that one: the least, the greatest
        int[][] others = {
            {1, 4, 2, 3, 6, 10}, {2, 3, 1, 4, 10, 22}, {1, 9, 2, 0, 0, 10}, {2, 0, 1, 9, 10, 47},
            {1, 5, 1, 4, 10, 22}, {0, 5, 1, 4, 10, 22}, {1, 4, 0, 5, 10, 10},
        };
        for (int[] other : others) {
            Scene.fine("another of that number, the least", other[4], x -> instead(x, other).said(5, 1));
            Scene.fine("another of that number, the greatest", other[5], x -> instead(x, other).said(5, 2));
        }
        Scene.at(46, EdgesTest::keptNobody);
        Scene.fine("SHELVES of no BROTHERS", 0, x -> after(x.back(), 1, x.status(8)));
    }

    private static VowOfOneWord instead(VowOfOneWord x, int[] other) {
        x.brother(1, 2, 0);
        x.brother(2, 5, 0);
        x.image();
        x.brother(other[0], other[1], 0);
        x.said(5, 0);
        x.back();
        x.brother(other[2], other[3], 0);
        return x;
    }

    /** Nobody is kept; then 8 stand on all SHELVES. */
    private static VowOfOneWord keptNobody() {
        VowOfOneWord x = new VowOfOneWord();
        x.image();
        for (int s = 0; s < 8; s++) {
            x.brother(1, 1, 1);
            x.show(s, s);
        }
        return x;
    }

    private static void status() {
        Scene.at(47, Scene::house);
        int[] want = {9, 8, 3, 3, 0, 239, 6, 77, 7, -1, -1, -1, 0, 1, 1, 1, 0, -1};
        for (int i = 0; i < want.length; i++) {
            int what = i;
            Scene.asks("what " + what, want[what], x -> x.status(what));
        }
        Scene.asks("what -1", -1, x -> x.status(-1));
        Scene.asks("far", -2, x -> x.status(LEAST) + x.status(MOST));
        Scene.at(47, Scene::ten);
        int[] full = {10, 10, 8, 45, 0, 990, 0, 1, 8};
        for (int i = 0; i < full.length; i++) {
            int what = i;
            Scene.asks("what " + what + " of 10", full[what], x -> x.status(what));
        }
        Scene.at(47, Scene::dead);
        Scene.asks("9, all dead", 9, x -> x.status(0));
        Scene.asks("none LIVES", 0, x -> x.status(1) + x.status(5));
        Scene.at(47, Scene::fullTape);
        Scene.asks("THE TAPE's size", 250, x -> x.status(6));
    }
}
