import java.util.ArrayList;
import java.util.List;
import java.util.function.Supplier;
import java.util.function.ToLongFunction;

/**
 * Objects in some state, all that can be seen of one, and what is due of a call on one: each call is told to a new
 * object, and what can be seen then is held against a twin that was told nothing.
 */
final class Scene {
    private static final int TELL = -100000000;
    private static final int[] LENGTHS = {40, 7, 3, 2, 1};

    private static int promise;
    private static Supplier<VowOfOneWord> scene = VowOfOneWord::new;

    private Scene() {
    }

    /** The calls that follow are told to such objects. */
    static void at(int number, Supplier<VowOfOneWord> objects) {
        promise = number;
        scene = objects;
    }

    /** A call that is not refused, whatever it changes. */
    static void fine(String call, long want, ToLongFunction<VowOfOneWord> told) {
        VowOfOneWord x = scene.get();
        long ahead = refusals(x);
        Due.is(name(call), told.applyAsLong(x), want);
        Due.is(name(call) + ": refusals", refusals(x), ahead);
    }

    /** A call that only asks: it is not refused, and nothing changes. */
    static void asks(String call, long want, ToLongFunction<VowOfOneWord> told) {
        VowOfOneWord x = scene.get();
        Due.is(name(call), told.applyAsLong(x), want);
        same(name(call), x, scene.get(), 0);
    }

    /** A call that is refused: it is counted once, under the number that it answers, and nothing else changes. */
    static void no(String call, long want, ToLongFunction<VowOfOneWord> told) {
        VowOfOneWord x = scene.get();
        Due.is(name(call), told.applyAsLong(x), want);
        same(name(call), x, scene.get(), (int) (want < TELL / 2 ? want - TELL : want));
    }

    /** A text that is no ROCK: it is refused, THE TAPE is empty, and nothing else changes. */
    static void fault(String text, int place) {
        VowOfOneWord x = scene.get();
        VowOfOneWord twin = scene.get();
        twin.wipe();
        Due.is(name("'" + text + "'"), read(x, text), -20 - place);
        same(name("'" + text + "'"), x, twin, -2);
    }

    static int read(VowOfOneWord x, String text) {
        x.wipe();
        for (int i = 0; i < text.length(); i++) {
            x.feed(text.charAt(i));
        }
        return x.rock();
    }

    static void put(VowOfOneWord x, int s, int... row) {
        x.row(s, 2, row.length);
        for (int i = 0; i < row.length; i++) {
            x.set(s, i, row[i]);
        }
    }

    private static String name(String call) {
        return promise + ": " + call;
    }

    private static long refusals(VowOfOneWord x) {
        long all = 0;
        for (int what = 12; what <= 16; what++) {
            all = 1000 * all + x.status(what);
        }
        return all;
    }

    private static void same(String call, VowOfOneWord x, VowOfOneWord twin, int refused) {
        for (int what = 12; what <= 16; what++) {
            int more = refused == 10 - what ? 1 : 0;
            Due.is(call + ": refusals " + (10 - what), x.status(what), twin.status(what) + more);
        }
        Due.that(call + ": nothing has changed", seen(x).equals(seen(twin)));
    }

    /** All that can be seen of an object but its refusals; it is of no use then, as its tape is read, its image back. */
    private static List<Long> seen(VowOfOneWord x) {
        List<Long> all = new ArrayList<>();
        look(x, all);
        for (int s = 0; s < 8; s++) {
            if (x.holds(s) >= 0 && x.holds(s) < 10) {
                lookAtRow(x, s, all);
            }
        }
        all.add((long) x.met());
        all.add((long) x.many(6, 1));
        all.add((long) x.alone());
        all.add((long) x.gather());
        all.add((long) x.rock());
        count(x, all);
        all.add((long) x.back());
        look(x, all);
        return all;
    }

    private static void look(VowOfOneWord x, List<Long> all) {
        count(x, all);
        for (int b = 0; b < x.status(0); b++) {
            for (int what = 0; what <= 5; what++) {
                all.add((long) x.brotherOf(b, what));
            }
        }
        for (int need = 0; need < x.status(2); need++) {
            all.add((long) x.needOf(need));
        }
        for (int s = 0; s < 8; s++) {
            all.add((long) x.holds(s));
        }
    }

    private static void count(VowOfOneWord x, List<Long> all) {
        for (int what = 0; what <= 8; what++) {
            all.add((long) x.status(what));
        }
    }

    private static void lookAtRow(VowOfOneWord x, int s, List<Long> all) {
        int length = 0;
        for (int i = 0; i < LENGTHS.length && length == 0; i++) {
            length = Math.max(0, x.copy(s, s, 0, 0, LENGTHS[i]));
        }
        all.add((long) length);
        for (int i = 0; i < Math.min(length, 8); i++) {
            all.add(x.element(s, i));
        }
        all.add(x.element(s, 39));
    }

    // ---- objects in some state; none takes so many calls that what is asked of it comes behind the 512th

    static VowOfOneWord empty() {
        return new VowOfOneWord();
    }

    /** THE TAPE holds 250 bytes, a ROCK. */
    static VowOfOneWord fullTape() {
        VowOfOneWord x = new VowOfOneWord();
        String text = "need 7;less 0" + " ".repeat(237);
        for (int i = 0; i < text.length(); i++) {
            x.feed(text.charAt(i));
        }
        return x;
    }

    /** NAME 0 of 3, DEED 1 of 4, MANY 2 of 1, NAME 3 of 5, NOT 4 of 7, AND 5 of 8, DEED 6 of 2, WORD 7 of 9; 8 is dead. */
    static VowOfOneWord people() {
        VowOfOneWord x = new VowOfOneWord();
        x.brother(1, 3, 0);
        x.brother(2, 4, 11);
        x.brother(3, 1, 22);
        x.brother(1, 5, 33);
        x.brother(4, 7, 44);
        x.brother(5, 8, 55);
        x.brother(2, 2, 5);
        x.brother(0, 9, 50);
        x.brother(1, 9, 50);
        x.dies(8);
        return x;
    }

    /** They, and 0 and 4 feud, 3 and 6, 7 and the dead 8; shelves hold rows right and wrong, long and empty, and brothers. */
    static VowOfOneWord house() {
        VowOfOneWord x = people();
        x.need(12);
        x.need(17);
        x.feud(0, 3, true);
        x.image();
        x.feud(0, 3, false);
        x.feud(0, 4, true);
        x.feud(6, 3, true);
        x.feud(7, 8, true);
        x.need(-12);
        x.age(3, 99);
        x.seed(77);
        furnish(x);
        return x;
    }

    private static void furnish(VowOfOneWord x) {
        put(x, 0, 0, 1, 3);
        x.show(1, 2);
        x.row(3, 0, 40);
        x.set(3, 39, 7);
        x.row(4, 4, 0);
        put(x, 5, 2, 0, 4, 1, 5, 3, 6);
        put(x, 6, 0, 7);
        x.show(7, 8);
        for (char c : "need 5".toCharArray()) {
            x.feed(c);
        }
        x.says(2, 0);
        x.means(1, 0);
        x.dies(8);
    }

    /** NAMES 0 to 3, DEEDS 4 to 6, MANY 7, NOT 8, AND 9, each of 9 and AGE 99; all feud with all; 8 needs; all shelves hold. */
    static VowOfOneWord ten() {
        VowOfOneWord x = new VowOfOneWord();
        for (char kind : "1111222345".toCharArray()) {
            x.brother(kind - '0', 9, 23);
        }
        for (int b = 0; b < 10; b++) {
            x.age(b, 99);
            for (int other = 0; other < b; other++) {
                x.feud(b, other, true);
            }
        }
        // the last by six alone
        for (int meaning : new int[] {81, 90, 810, -81, -90, -810, 162, 891}) {
            x.need(meaning);
        }
        for (int s = 0; s < 8; s++) {
            x.show(s, s + 2);
        }
        return x;
    }

    /** All of people() are dead. */
    static VowOfOneWord dead() {
        VowOfOneWord x = people();
        for (int b = 0; b < 8; b++) {
            x.dies(b);
        }
        x.need(12);
        return x;
    }
}
