/** For each promise: ordinary calls, the edges that the document names, and wrong ones. Answers are done by hand. */
final class PromiseTest {
    private static final int TELL = -100000000;

    private PromiseTest() {
    }

    public static void main(String[] args) {
        shelves();
        copies();
        says();
        making();
        tape();
        rocks();
        faults();
        brotherOf();
        shortest();
        meanings();
        manyAndWho();
        people();
        cells();
        lasting();
        needs();
        lost();
        choice();
        ran();
        told();
        standing();
        done();
        peace();
        years();
        images();
        status();
        fullest();
        wildest();
        Due.end("PromiseTest");
    }

    /** NAME 0 of 3, DEED 1 of 4, MANY 2 of 1, NAME 3 of 5, NOT 4, AND 5, DEED 6 of 2. */
    private static VowOfOneWord seven() {
        VowOfOneWord x = new VowOfOneWord();
        x.brother(1, 3, 0);
        x.brother(2, 4, 11);
        x.brother(3, 1, 22);
        x.brother(1, 5, 33);
        x.brother(4, 7, 44);
        x.brother(5, 8, 55);
        x.brother(2, 2, 5);
        return x;
    }

    private static void put(VowOfOneWord x, int s, int... row) {
        x.row(s, 2, row.length);
        for (int i = 0; i < row.length; i++) {
            x.set(s, i, row[i]);
        }
    }

    private static int read(VowOfOneWord x, String text) {
        for (char c : text.toCharArray()) {
            x.feed(c);
        }
        return x.rock();
    }

    private static void shelves() {
        VowOfOneWord x = new VowOfOneWord();
        for (int s = 0; s < 8; s++) {
            Due.is("1: holds at first", x.holds(s), -1);
        }
        for (int what = 0; what < 17; what++) {
            Due.is("1: status at first " + what, x.status(what), what == 7 ? 1 : what > 8 && what < 12 ? -1 : 0);
        }
        Due.is("2: row", x.row(0, 0, 40), 1);
        Due.is("2: row of none", x.row(7, 4, 0), 1);
        Due.is("2: sorts", x.row(1, 5, 1), -2);
        Due.is("2: sorts", x.row(1, -1, 1), -2);
        Due.is("2: shelves", x.row(8, 0, 1), -2);
        Due.is("2: shelves", x.row(-1, 0, 1), -2);
        Due.is("2: size", x.row(1, 0, 41), -2);
        Due.is("2: size", x.row(1, 0, -1), -2);
        Due.is("2: nothing changed", x.holds(1), -1);
        Due.is("3: set", x.set(0, 39, 200), 1);
        Due.is("5: a byte", x.element(0, 39), -56);
        x.row(1, 1, 2);
        x.set(1, 1, 0x18001L);
        Due.is("3: a short", x.element(1, 1), -32767);
        x.row(2, 2, 2);
        x.set(2, 0, 0x180000000L);
        Due.is("3: an int", x.element(2, 0), Integer.MIN_VALUE);
        x.row(3, 3, 2);
        x.set(3, 0, Long.MIN_VALUE);
        Due.is("3: a long", x.element(3, 0), Long.MIN_VALUE);
        x.row(4, 4, 2);
        x.set(4, 0, 256);
        Due.is("3: a boolean", x.element(4, 0), 1);
        x.set(4, 0, 0);
        Due.is("3: a boolean", x.element(4, 0), 0);
        Due.is("3: BAD i", x.set(0, 40, 1), -2);
        Due.is("3: BAD i", x.set(0, -1, 1), -2);
        Due.is("3: BAD shelf", x.set(8, 0, 1), -2);
        Due.is("3: NOTHING", x.set(5, 99, 1), -4);
        x.brother(0, 6, 0);
        x.show(5, 0);
        Due.is("3: OTHER", x.set(5, 99, 1), -3);
        Due.is("5: no element", x.element(0, 40) + x.element(0, -1) + x.element(5, 0) + x.element(6, 0) + x.element(9, 0), 0);
        Due.is("5: nothing refused", x.status(12), 9);
        x.row(0, 0, 40);
        Due.is("2: a new row", x.element(0, 39), 0);
        for (int s = 0; s < 5; s++) {
            Due.is("6: holds", x.holds(s), s);
        }
        Due.is("6: holds a brother", x.holds(5), 10);
        Due.is("6: no shelf", x.holds(8) + x.holds(-1), -2);
        Due.is("7: show nobody", x.show(0, -1), 1);
        Due.is("7: nothing", x.holds(0), -1);
        Due.is("7: BAD brother", x.show(0, 1), -2);
        Due.is("7: BAD brother", x.show(0, -2), -2);
        Due.is("7: BAD shelf", x.show(8, -1), -2);
    }

    private static void copies() {
        VowOfOneWord x = new VowOfOneWord();
        put(x, 0, 1, 2, 3, 4, 5);
        Due.is("4: copy over itself", x.copy(0, 0, 0, 1, 4), 4);
        for (int i = 0; i < 5; i++) {
            Due.is("4: as they were", x.element(0, i), i == 0 ? 1 : i);
        }
        put(x, 1, 7, 8, 9);
        Due.is("4: copy", x.copy(1, 0, 1, 3, 2), 2);
        Due.is("4: come to", x.element(0, 3) * 10 + x.element(0, 4), 89);
        Due.is("4: of none", x.copy(1, 0, 3, 5, 0), 0);
        Due.is("4: too many", x.copy(1, 0, 2, 0, 2), -2);
        Due.is("4: too many", x.copy(0, 1, 0, 2, 2), -2);
        Due.is("4: below 0", x.copy(1, 0, -1, 0, 1), -2);
        Due.is("4: below 0", x.copy(1, 0, 0, -1, 1), -2);
        Due.is("4: below 0", x.copy(1, 0, 1, 1, -1), -2);
        Due.is("4: far too many", x.copy(1, 0, 1, 1, Integer.MAX_VALUE), -2);
        Due.is("4: NOTHING", x.copy(1, 2, 9, 9, 9), -4);
        Due.is("4: NOTHING", x.copy(2, 1, 9, 9, 9), -4);
        x.row(3, 3, 5);
        Due.is("4: two sorts", x.copy(1, 3, 9, 9, 9), -3);
        x.brother(0, 0, 0);
        x.show(4, 0);
        Due.is("4: OTHER ahead of NOTHING", x.copy(2, 4, 0, 0, 0), -3);
        Due.is("4: OTHER", x.copy(4, 1, 0, 0, 0), -3);
        Due.is("4: BAD shelf ahead", x.copy(4, 8, 0, 0, 0), -2);
        Due.is("4: BAD shelf ahead", x.copy(-1, 4, 0, 0, 0), -2);
    }

    private static void says() {
        VowOfOneWord x = seven();
        x.brother(0, 9, 0);
        x.show(0, 7);
        Due.is("8: a WORD", x.says(0, 0), 9);
        Due.is("8: a WORD is no NAME", x.says(0, 1), -3);
        x.show(1, 0);
        Due.is("8: a NAME taken for a WORD", x.says(1, 0), 3);
        Due.is("8: a NAME", x.says(1, 1), 2);
        Due.is("8: a NAME is no MANY", x.says(1, 3), -3);
        x.show(2, 2);
        Due.is("8: a MANY taken for a NAME", x.says(2, 1), 1);
        x.brother(3, 6, 0);
        Due.is("8: a MANY", x.says(2, 3), 2);
        Due.is("8: a MANY taken for a WORD", x.says(2, 0), 1);
        Due.is("8: a MANY is no DEED", x.says(2, 2), -3);
        x.show(3, 4);
        Due.is("8: a NOT taken for a DEED", x.says(3, 2), 1);
        Due.is("8: a NOT", x.says(3, 4), 1);
        Due.is("8: a NOT taken for a WORD", x.says(3, 0), 7);
        Due.is("8: a NOT is no AND", x.says(3, 5), -3);
        x.show(6, 5);
        Due.is("8: an AND", x.says(6, 5), 1);
        Due.is("8: an AND taken for a WORD", x.says(6, 0), 8);
        x.show(7, 1);
        Due.is("8: a DEED", x.says(7, 2), 2);
        Due.is("8: a DEED taken for a WORD", x.says(7, 0), 4);
        x.dies(3);
        Due.is("8: who LIVE", x.says(1, 1), 1);
        x.show(7, 3);
        Due.is("8: one who doesn't LIVE", x.says(7, 1), 1);
        Due.is("8: one who doesn't LIVE, taken for a WORD", x.says(7, 0), 5);
        x.row(4, 0, 1);
        Due.is("8: a ROW", x.says(4, 0), -3);
        Due.is("8: NOTHING", x.says(5, 0), -4);
        Due.is("8: BAD kind", x.says(5, 6) + x.says(5, -1), -4);
        Due.is("8: BAD shelf", x.says(8, 0) + x.says(-1, 0), -4);
    }

    private static void making() {
        VowOfOneWord x = new VowOfOneWord();
        Due.is("9: brother", x.brother(5, 9, 55), 0);
        Due.is("9: brother", x.brother(0, 0, 0), 1);
        Due.is("9: BAD", x.brother(6, 0, 0) + x.brother(-1, 0, 0) + x.brother(0, 10, 0) + x.brother(0, -1, 0)
            + x.brother(0, 0, 6) + x.brother(0, 0, 60) + x.brother(0, 0, -1) + x.brother(0, 0, -10), -16);
        Due.is("10: feud", x.feud(0, 1, true), 0);
        Due.is("10: feud", x.feud(1, 0, true), 1);
        Due.is("10: peace", x.feud(1, 0, false), 1);
        Due.is("10: peace", x.feud(0, 1, false), 0);
        Due.is("10: BAD", x.feud(0, 0, true) + x.feud(2, 0, true) + x.feud(0, 2, true) + x.feud(-1, 0, true), -8);
        for (int i = 0; i < 8; i++) {
            Due.is("11: need", x.need(i == 0 ? -999 : 992 + i), i);
        }
        Due.is("11: FULL", x.need(0), -6);
        Due.is("11: BAD ahead", x.need(1000) + x.need(-1000), -4);
        Due.is("19: needOf", x.needOf(0) + x.needOf(7), 0);
        Due.is("19: BAD", x.needOf(8), TELL - 2);
        Due.is("19: BAD", x.needOf(-1), TELL - 2);
        Due.is("12: age", x.age(0, 99), 20);
        Due.is("12: age", x.age(0, 0), 99);
        Due.is("12: BAD", x.age(0, 100) + x.age(0, -1) + x.age(2, 1) + x.age(-1, 1), -8);
        Due.is("13: goes", x.goes(0, 50), 55);
        Due.is("13: goes", x.goes(0, 5), 50);
        Due.is("13: BAD", x.goes(0, 6) + x.goes(0, 60) + x.goes(0, -1) + x.goes(2, 0), -8);
        Due.is("14: dies", x.dies(1), 1);
        Due.is("14: STUCK", x.dies(1), -5);
        Due.is("14: BAD", x.dies(2) + x.dies(-1), -4);
        for (int i = 2; i < 10; i++) {
            Due.is("9: brother", x.brother(0, 0, 0), i);
        }
        Due.is("9: FULL", x.brother(0, 0, 0), -6);
        Due.is("9: BAD ahead", x.brother(0, 0, 6), -2);
        Due.is("12: of the dead", x.age(1, 30), 20);
        Due.is("13: of the dead", x.goes(1, 30), 0);
        Due.is("10: of the dead", x.feud(1, 9, true), 0);
    }

    private static void tape() {
        VowOfOneWord x = new VowOfOneWord();
        Due.is("15: BAD", x.feed(-1) + x.feed(256), -4);
        for (int i = 1; i <= 250; i++) {
            Due.is("15: feed", x.feed(i == 1 ? 0 : 255), i);
        }
        Due.is("15: FULL", x.feed(32), -6);
        Due.is("15: BAD ahead", x.feed(256), -2);
        Due.is("16: wipe", x.wipe(), 250);
        Due.is("16: wipe", x.wipe(), 0);
        Due.is("16: and on", x.feed(32), 1);
    }

    private static void rocks() {
        VowOfOneWord x = new VowOfOneWord();
        Due.is("17: a rock", read(x, "brother 1 2 34;brother2 3 45 ; feud 0 1;need 999;less 007;age 1 99"), 6);
        Due.is("17: tape", x.status(6), 0);
        Due.is("17: brother", x.brotherOf(0, 0) + 10 * x.brotherOf(0, 1) + 100 * x.brotherOf(0, 2), 3421);
        Due.is("17: brother", x.brotherOf(1, 0) + 10 * x.brotherOf(1, 1) + 100 * x.brotherOf(1, 2), 4532);
        Due.is("17: feud", x.brotherOf(0, 4) * 10 + x.brotherOf(1, 4), 21);
        Due.is("17: needs", x.needOf(0) * 10 + x.needOf(1), 9983);
        Due.is("17: age", x.brotherOf(1, 3), 99);
        Due.is("17: peace, death", read(x, " peace 1 0;dies 1 "), 2);
        Due.is("17: peace", x.brotherOf(0, 4) + x.brotherOf(1, 4), 0);
        Due.is("17: death", x.brotherOf(1, 5), 0);
        Due.is("17: less 0", read(x, "less 0"), 1);
        Due.is("17: less 0", x.needOf(2), 0);
        read(x, "need 15");
        read(x, "need 1");
        Due.is("17: no byte of the tape ahead", x.needOf(4), 1);
        Due.is("17: blanks where they may be", read(x, "  need   2  ;  less3;age0 5"), 3);
        Due.is("17: NUMBERS", x.needOf(5) * 100 + x.needOf(6) * 10 + x.brotherOf(0, 3), 175);
    }

    private static void fault(VowOfOneWord x, String text, int place) {
        int refused = x.status(12);
        int there = 100 * x.status(0) + 10 * x.status(1) + x.status(2);
        Due.is("17: fault of '" + text + "'", read(x, text), -20 - place);
        Due.is("17: refused, '" + text + "'", x.status(12), refused + 1);
        Due.is("17: tape, '" + text + "'", x.status(6), 0);
        Due.is("17: nothing came of '" + text + "'", 100 * x.status(0) + 10 * x.status(1) + x.status(2), there);
    }

    private static void faults() {
        fault(new VowOfOneWord(), "", 0);
        fault(new VowOfOneWord(), "   ", 3);
        fault(new VowOfOneWord(), "need 1;", 7);
        fault(new VowOfOneWord(), "need 1; ", 8);
        fault(new VowOfOneWord(), ";need 1", 0);
        fault(new VowOfOneWord(), "need 1;;need 2", 7);
        fault(new VowOfOneWord(), "need 1 need 2", 7);
        fault(new VowOfOneWord(), "need 1 2", 7);
        fault(new VowOfOneWord(), "need", 4);
        fault(new VowOfOneWord(), "need ", 5);
        fault(new VowOfOneWord(), "needs 1", 0);
        fault(new VowOfOneWord(), "needz 1", 0);
        fault(new VowOfOneWord(), "needa1", 0);
        fault(new VowOfOneWord(), "feed 1", 0);
        fault(new VowOfOneWord(), "nee", 0);
        fault(new VowOfOneWord(), "need 1 z", 7);
        fault(new VowOfOneWord(), "need/", 4);
        fault(new VowOfOneWord(), "need:", 4);
        fault(new VowOfOneWord(), "need 1`", 6);
        fault(new VowOfOneWord(), "need 1{", 6);
        fault(new VowOfOneWord(), " nee d 1", 1);
        fault(new VowOfOneWord(), "need 1000", 5);
        fault(new VowOfOneWord(), "need 0001", 5);
        fault(new VowOfOneWord(), "need -1", 5);
        fault(new VowOfOneWord(), "need x", 5);
        fault(new VowOfOneWord(), "need 1x", 6);
        fault(new VowOfOneWord(), "need 1\t", 6);
        fault(new VowOfOneWord(), "Need 1", 0);
        fault(new VowOfOneWord(), "\u00e9", 0);
        fault(new VowOfOneWord(), "7", 0);
        fault(new VowOfOneWord(), "brother 6 0 0", 8);
        fault(new VowOfOneWord(), "brother 0 10 0", 10);
        fault(new VowOfOneWord(), "brother 0 0 56", 12);
        fault(new VowOfOneWord(), "brother 0 0", 11);
        fault(new VowOfOneWord(), "feud 0 1", 5);
        fault(new VowOfOneWord(), "brother 0 0 0;feud 0 1", 21);
        fault(new VowOfOneWord(), "brother 0 0 0;brother 0 0 0;feud 1 1", 35);
        fault(new VowOfOneWord(), "brother 0 0 0;peace 0 0", 22);
        fault(new VowOfOneWord(), "brother 0 0 0;age 0 100", 20);
        fault(new VowOfOneWord(), "brother 0 0 0;age 1 1", 18);
        fault(new VowOfOneWord(), "brother 0 0 0;dies 0;dies 0", 26);
        fault(new VowOfOneWord(), "brother 0 0 0;dies 1", 19);
        VowOfOneWord x = new VowOfOneWord();
        Due.is("17: needs", read(x, "need 1;need 2;need 3;need 4;need 5;need 6;need 7"), 7);
        fault(x, "less 1;less 2", 7);
        fault(x, "less 1;need", 7);
        Due.is("17: nothing came of it", x.status(2), 7);
        for (int b = 0; b < 9; b++) {
            x.brother(0, 0, 0);
        }
        fault(x, "brother 0 0 0 ; brother 9", 16);
        Due.is("17: the last one", read(x, "brother 0 0 0;less 1"), 2);
        fault(x, "brother", 0);
        fault(x, "need", 0);
        fault(x, "less", 0);
    }

    private static void brotherOf() {
        VowOfOneWord x = seven();
        x.feud(3, 0, true);
        x.feud(3, 6, true);
        x.age(3, 77);
        x.dies(3);
        int[] want = {1, 5, 33, 77, 65, 0};
        for (int what = 0; what < 6; what++) {
            Due.is("18: brotherOf", x.brotherOf(3, what), want[what]);
        }
        Due.is("18: lives, age", x.brotherOf(6, 5) * 100 + x.brotherOf(6, 3), 120);
        Due.is("18: BAD", x.brotherOf(7, 0) + x.brotherOf(-1, 0) + x.brotherOf(0, 6) + x.brotherOf(0, -1), -8);
    }

    private static void row(VowOfOneWord x, int meaning, int n, boolean calm, int... want) {
        Due.is("20: length for " + meaning, x.shortest(meaning, n, calm, -1), want.length == 0 ? -1 : want.length);
        for (int i = 0; i < want.length; i++) {
            Due.is("20: place " + i + " for " + meaning, x.shortest(meaning, n, calm, i), want[i]);
        }
        Due.is("20: not so many", x.shortest(meaning, n, calm, want.length), -5);
    }

    private static void shortest() {
        VowOfOneWord x = seven();
        row(x, 12, 6, false, 0, 1);
        row(x, 20, 2, false, 3, 1);
        row(x, 17, 3, false, 0, 1, 3);
        row(x, 40, 6, false, 2, 3, 1);
        row(x, -12, 3, false, 0, 4, 1);
        row(x, -17, 4, false, 0, 4, 1, 3);
        row(x, -22, 6, false, 0, 4, 1, 2, 3);
        row(x, 22, 5, false, 0, 1, 2, 3);
        row(x, 2, 6, false, 0, 1, 5, 3, 4, 6);
        row(x, 2, 5, false);
        row(x, 12, 1, false);
        x.feud(0, 1, true);
        row(x, 12, 6, true, 2, 0, 6);
        row(x, 12, 2, true);
        row(x, 12, 2, false, 0, 1);
        row(x, 20, 2, true, 3, 1);
        int refused = x.status(12) + x.status(15);
        Due.is("20: NONE", x.shortest(9999, 6, false, -1) + x.shortest(-9999, 6, true, -1), -2);
        Due.is("20: NONE isn't refused", x.status(12) + x.status(15), refused);
        Due.is("20: not so many", x.shortest(20, 2, true, Integer.MAX_VALUE), -5);
        Due.is("20: BAD", x.shortest(10000, 6, false, -1) + x.shortest(-10000, 6, false, -1) + x.shortest(0, 7, false, -1)
            + x.shortest(0, 0, false, -1) + x.shortest(0, 6, false, -2), -10);
        x.dies(0);
        row(x, 12, 6, false);
    }

    private static void meanings() {
        VowOfOneWord x = new VowOfOneWord();
        Due.is("21: none", x.said(5, 0), 0);
        Due.is("21: none", x.said(5, 1), TELL - 5);
        Due.is("21: none", x.said(5, 2), TELL - 5);
        Due.is("21: BAD ahead", x.said(0, 1), TELL - 2);
        Due.is("24: none", x.nearest(0), TELL - 5);
        x = seven();
        // 0 1: 12, 0 6: 6, 3 1: 20, 3 6: 10
        Due.is("21: of one", x.said(1, 0), 0);
        Due.is("21: of two", x.said(2, 0), 4);
        Due.is("21: least of two", x.said(2, 1), 6);
        Due.is("21: greatest of two", x.said(2, 2), 20);
        // of three too: 0 1 3: 17, 0 6 3: 11, 3 1 0: 23, 3 6 0: 13, with 2: 24, 12, 40, 20, with 4: -12, -6, -20, -10
        Due.is("21: of three", x.said(3, 0), 4 + 4 + 2 + 4);
        Due.is("21: least of three", x.said(3, 1), -20);
        Due.is("21: greatest of three", x.said(3, 2), 40);
        Due.is("21: least of five", x.said(5, 1), -43);
        Due.is("21: greatest of five", x.said(5, 2), 43);
        Due.is("21: BAD", x.said(6, 0), TELL - 2);
        Due.is("21: BAD", x.said(5, 3), TELL - 2);
        Due.is("21: BAD", x.said(5, -1), TELL - 2);
        Due.is("24: nearest", x.nearest(9999), 43);
        Due.is("24: nearest", x.nearest(-9999), -43);
        Due.is("24: itself", x.nearest(24), 24);
        Due.is("24: BAD", x.nearest(10000), TELL - 2);
        Due.is("24: BAD", x.nearest(-10000), TELL - 2);
        VowOfOneWord y = new VowOfOneWord();
        y.brother(1, 1, 0);
        y.brother(2, 4, 0);
        y.brother(1, 2, 0);
        // 4, 8, 6, 9
        Due.is("24: the lesser of two", y.nearest(5), 4);
        Due.is("24: the lesser of two", y.nearest(7), 6);
        Due.is("24: the nearer", y.nearest(-100), 4);
        y.dies(2);
        Due.is("24: after a death", y.nearest(9), 4);
        Due.is("21: after a death", y.said(5, 0), 1);
    }

    private static void manyAndWho() {
        VowOfOneWord x = seven();
        // N D: 2 2. With N: 2 1 2, with M: 1 2 2, with T: 2 2.
        Due.is("22: of one", x.many(1, 0), 0);
        Due.is("22: of two", x.many(2, 0), 4);
        Due.is("22: of three", x.many(3, 0), 12);
        x.feud(0, 1, true);
        x.feud(4, 6, true);
        Due.is("22: calm of two", x.many(2, 1), 3);
        // 0 6 3, 3 6 0, 2 0 6, 2 3 1, 2 3 6, 0 4 1, 3 4 1
        Due.is("22: calm of three", x.many(3, 1), 7);
        Due.is("22: BAD", x.many(0, 0) + x.many(7, 0) + x.many(1, 2) + x.many(1, -1), -8);
        Due.is("30: longest", x.longest(0), 6);
        Due.is("30: calm", x.longest(1), 6);
        Due.is("30: BAD", x.longest(2) + x.longest(-1), -4);
        Due.is("23: begin", x.who(0), 1 | 4 | 8);
        Due.is("23: end", x.who(1), 1 | 2 | 8 | 64);
        Due.is("23: stand in none", x.who(2), 0);
        Due.is("23: BAD", x.who(3) + x.who(-1), -4);
        x.dies(6);
        // the AND wants a second DEED
        Due.is("23: stand in none", x.who(2), 32);
        Due.is("30: without an AND: 2 0 4 1 3", x.longest(0), 5);
        Due.is("30: calm: 2 0 4 1 3", x.longest(1), 5);
        x.feud(4, 1, true);
        Due.is("30: calm: 3 1 2 0", x.longest(1), 4);
        x.dies(1);
        Due.is("23: nobody begins", x.who(0) + x.who(1), 0);
        Due.is("23: all living stand in none", x.who(2), 1 | 4 | 8 | 16 | 32);
        Due.is("30: none", x.longest(0) + x.longest(1), 0);
        VowOfOneWord y = new VowOfOneWord();
        int[] kinds = {3, 1, 4, 2, 3, 1};
        for (int kind : kinds) {
            y.brother(kind, 1, 0);
        }
        Due.is("22: of six: 0 1 2 3 4 5 and three like it", y.many(6, 0), 4);
        Due.is("22: of five", y.many(5, 0), 12);
        y.brother(0, 0, 0);
        Due.is("23: a WORD stands nowhere", y.who(2), 64);
    }

    private static void people() {
        VowOfOneWord x = new VowOfOneWord();
        Due.is("25: nobody", x.first(0) + x.first(1) + x.first(2), -15);
        Due.is("25: BAD ahead", x.first(3) + x.first(-1), -4);
        Due.is("33: nobody", x.mightiest(), -5);
        x = seven();
        Due.is("25: of several the first", x.first(0) + x.first(1) + x.first(2), 0);
        x.age(5, 21);
        x.age(6, 21);
        x.age(3, 19);
        x.age(4, 19);
        x.feud(2, 0, true);
        x.feud(2, 1, true);
        x.feud(6, 0, true);
        x.feud(6, 1, true);
        Due.is("25: eldest", x.first(0), 5);
        Due.is("25: youngest", x.first(1), 3);
        Due.is("25: feuds", x.first(2), 0);
        Due.is("28: alone", x.alone(), 8 | 16 | 32);
        x.dies(0);
        x.dies(5);
        Due.is("25: most who live", x.first(2), 1);
        Due.is("25: eldest who lives", x.first(0), 6);
        x.dies(1);
        Due.is("25: feuds with the dead too", x.first(2), 2);
        Due.is("28: feuds with the dead alone", x.alone(), 4 | 8 | 16 | 64);
    }

    private static void cells() {
        VowOfOneWord x = new VowOfOneWord();
        Due.is("26: of nobody", x.crowd(), 0);
        Due.is("27: of nobody", x.gather(), 0);
        x.brother(0, 0, 55);
        Due.is("26: of one", x.crowd(), 55);
        Due.is("27: of one", x.gather(), 55);
        x.brother(0, 0, 11);
        Due.is("26: the least", x.crowd(), 11);
        // 4 steps from each: 15, 24, 33, 42, 51
        Due.is("27: the least", x.gather(), 15);
        x.brother(0, 0, 55);
        Due.is("26: the most", x.crowd(), 55);
        x.dies(0);
        x.dies(2);
        Due.is("26: who live", x.crowd(), 11);
        Due.is("27: who live", x.gather(), 11);
        x.brother(0, 0, 15);
        x.brother(0, 0, 51);
        // 11 is 4 from 15 and 51, as they are 8 from one another
        Due.is("27: of three", x.gather(), 11);
        x.goes(1, 55);
        // of those that are 4 from both, 11 and 22 are 8 and 6 from 55, and 33 is 4
        Due.is("27: between them", x.gather(), 33);
    }

    private static void lasting() {
        VowOfOneWord x = new VowOfOneWord();
        Due.is("29: nobody", x.lasting(), 1000000);
        x.brother(0, 0, 0);
        Due.is("29: one of 20", x.lasting(), 895000);
        x.brother(0, 0, 0);
        x.age(1, 99);
        Due.is("29: of 99 too", x.lasting(), 451975);
        x.brother(0, 0, 0);
        x.age(2, 2);
        // 451975 times 197, by 200: 445195.375
        Due.is("29: cut", x.lasting(), 445195);
        x.dies(1);
        Due.is("29: who live", x.lasting(), 881575);
    }

    private static void needs() {
        VowOfOneWord x = seven();
        x.need(12);
        x.need(1);
        x.need(24);
        x.need(17);
        x.need(-12);
        x.need(20);
        Due.is("31: met", x.met(), 1 | 4 | 8 | 16 | 32);
        // without 0: 20 by 3 1 is left
        Due.is("32: without the NAME of 3", x.without(0, 0), 1 | 4 | 8 | 16);
        Due.is("32: power", x.without(0, 1), 4);
        Due.is("32: without the DEED of 2", x.without(6, 0), 0);
        // without 1: 12 by 2 0 6, 17 by 2 0 6 3, -12 by 2 0 4 6, 20 by 2 3 6
        Due.is("32: without the DEED of 4", x.without(1, 0), 4);
        Due.is("32: without the NOT", x.without(4, 0), 16);
        Due.is("32: without a NAME of 5", x.without(3, 0), 8 | 32);
        Due.is("33: mightiest, the first", x.mightiest(), 0);
        // by 0 4 1 5 3 6
        x.need(-2);
        Due.is("20: by six", x.shortest(-2, 6, false, -1), 6);
        Due.is("31: not by six", x.met(), 1 | 4 | 8 | 16 | 32);
        Due.is("35: not by six", x.lost(6, -1), 0);
        Due.is("32: BAD", x.without(7, 0) + x.without(-1, 0) + x.without(0, 2) + x.without(0, -1), -8);
        x.dies(4);
        Due.is("31: met then", x.met(), 1 | 4 | 8 | 32);
        Due.is("32: STUCK", x.without(4, 0), -5);
        Due.is("32: BAD ahead", x.without(4, 2), -2);
        x.dies(0);
        x.dies(1);
        // 12 by 2 3 6 is 20; none by 3 6 alone
        Due.is("31: met at last", x.met(), 32);
        Due.is("33: mightiest who lives", x.mightiest(), 2);
    }

    private static void lost() {
        VowOfOneWord x = new VowOfOneWord();
        x.brother(1, 2, 0);
        x.brother(2, 3, 0);
        x.brother(2, 3, 0);
        x.brother(1, 2, 0);
        x.need(6);
        x.need(7);
        Due.is("35: two", x.lost(0, -1), 2);
        Due.is("35: two", x.lost(0, 0) * 10 + x.lost(0, 1), 3);
        Due.is("35: not so many", x.lost(0, 2), -5);
        Due.is("35: unmet", x.lost(1, -1), 0);
        Due.is("35: unmet", x.lost(1, 0), -5);
        Due.is("35: BAD", x.lost(2, 0) + x.lost(-1, 0) + x.lost(0, -2), -6);
        x.feud(1, 0, true);
        Due.is("35: calm or not", x.lost(0, 0) * 10 + x.lost(0, 1), 3);
        x.dies(3);
        Due.is("35: one", x.lost(0, -1), 1);
        Due.is("35: one", x.lost(0, 0), 0);
        x.brother(1, 2, 0);
        x.brother(1, 2, 0);
        Due.is("35: two", x.lost(0, 0) * 10 + x.lost(0, 1), 12);
        x.brother(2, 3, 0);
        int refused = x.status(15);
        Due.is("35: two aren't enough", x.lost(0, -1), -1);
        Due.is("35: not refused", x.status(15), refused);
        Due.is("35: not so many", x.lost(0, 0), -5);
    }

    private static void choice() {
        VowOfOneWord x = new VowOfOneWord();
        Due.is("34: of nobody", x.choice(0) + x.choice(1), 0);
        Due.is("34: BAD", x.choice(2) + x.choice(-1), -4);
        x.brother(1, 3, 0);
        x.brother(2, 4, 0);
        x.need(12);
        Due.is("34: none is better", x.choice(0), 0);
        Due.is("34: how many", x.choice(1), 1);
        x.need(17);
        // 3 times 4, and 5
        Due.is("34: a NAME", x.choice(0), 15);
        Due.is("34: how many", x.choice(1), 2);
        x.need(-12);
        // a NAME of 5, or a NOT: of several the first
        Due.is("34: the first", x.choice(0), 15);
        x.need(-12);
        Due.is("34: a NOT", x.choice(0), 40);
        Due.is("34: how many", x.choice(1), 3);
        x.need(60);
        x.need(60);
        x.need(60);
        Due.is("34: a MANY", x.choice(0), 34);
        x.need(27);
        Due.is("34: a MANY yet", x.choice(0) * 10 + x.choice(1), 344);
        x.dies(1);
        // 27 is 3 times 9, 12 is 3 times 4
        Due.is("34: a DEED", x.choice(0) * 10 + x.choice(1), 241);
        for (int b = 0; b < 8; b++) {
            x.brother(0, 0, 0);
        }
        Due.is("34: FULL", x.choice(0), -6);
        Due.is("34: BAD ahead", x.choice(2), -2);
        VowOfOneWord w = new VowOfOneWord();
        w.brother(1, 7, 0);
        w.brother(1, 5, 0);
        w.brother(2, 9, 0);
        w.brother(2, 8, 0);
        w.brother(2, 6, 0);
        // 7 times 9, and 5 times 8; 7 times 8, and 5 times 6; 7 times 9, and 5 times 6
        w.need(103);
        w.need(86);
        w.need(93);
        Due.is("34: an AND", w.choice(0) * 10 + w.choice(1), 503);
        VowOfOneWord y = seven();
        y.feud(0, 1, true);
        y.need(17);
        y.need(-900);
        Due.is("34: calm or not", y.choice(0) * 10 + y.choice(1), 1);
        y.dies(4);
        y.need(-17);
        Due.is("34: instead of the dead", y.choice(0) * 10 + y.choice(1), 402);
    }

    private static void ran() {
        VowOfOneWord x = seven();
        Due.is("36: N D N", x.ran(1 | 2 | 8, 0), 2);
        Due.is("36: 17, 23", x.ran(1 | 2 | 8, 1), 2);
        Due.is("36: first", x.ran(1 | 2 | 8, 2), 0);
        Due.is("36: N D N, one with a MANY", x.ran(1 | 2 | 4 | 8, 0), 4);
        // 2 0 1 3: 29, 2 3 1 0: 43, 0 1 2 3: 22, 3 1 2 0: 26
        Due.is("36: unlike", x.ran(1 | 2 | 4 | 8, 1), 4);
        Due.is("36: N D A N D", x.ran(1 | 2 | 8 | 32 | 64, 0), 4);
        Due.is("36: 22, 26", x.ran(1 | 2 | 8 | 32 | 64, 1), 2);
        Due.is("36: none", x.ran(1, 0) + x.ran(1, 1), 0);
        Due.is("36: none", x.ran(1, 2), -1);
        Due.is("36: no one", x.ran(0, 0) + x.ran(0, 1), 0);
        Due.is("36: no one", x.ran(0, 2), -1);
        Due.is("36: not refused", x.status(12), 0);
        Due.is("36: six", x.ran(63, 0), 0);
        Due.is("36: BAD", x.ran(127, 0) + x.ran(128, 0) + x.ran(-1, 0) + x.ran(1, 3) + x.ran(1, -1), -10);
        Due.is("37: meant", x.meant(1 | 2 | 8, 17), 1);
        Due.is("37: meant", x.meant(1 | 2 | 8, 23), 1);
        Due.is("37: not meant", x.meant(1 | 2 | 8, 12) + x.meant(0, 0) + x.meant(1 | 2 | 8, -9999), 0);
        Due.is("37: BAD", x.meant(127, 0) + x.meant(128, 0) + x.meant(-1, 0) + x.meant(3, 10000) + x.meant(3, -10000), -10);
        x.dies(3);
        Due.is("36: BAD, dead", x.ran(1 | 2 | 8, 0), -2);
        Due.is("37: BAD, dead", x.meant(1 | 2 | 8, 17), -2);
        Due.is("36: the others", x.ran(3, 0), 1);
    }

    private static void judged(VowOfOneWord x, int want, int... row) {
        put(x, 0, row);
        StringBuilder told = new StringBuilder("38: told");
        for (int b : row) {
            told.append(' ').append(b);
        }
        Due.is(told.toString(), x.judge(0, row.length), want);
        Due.that(told + " means", (x.means(0, row.length) == TELL - 5) == (want != -1));
    }

    private static void told() {
        VowOfOneWord x = seven();
        x.brother(0, 1, 0);
        x.brother(1, 9, 0);
        x.dies(8);
        judged(x, 0);
        judged(x, 1, 0);
        judged(x, -1, 0, 1);
        judged(x, -1, 0, 1, 3);
        judged(x, 3, 0, 1, 2);
        judged(x, -1, 0, 1, 2, 3);
        judged(x, 1, 2);
        judged(x, 1, 2, 1);
        judged(x, 0, 1, 0);
        judged(x, 0, 4);
        judged(x, 0, 5);
        judged(x, 0, 7);
        judged(x, 0, 8);
        judged(x, 0, 9);
        judged(x, 0, -1);
        judged(x, 2, 0, 1, 0);
        judged(x, 2, 0, 1, 6);
        judged(x, 2, 0, 1, 4);
        judged(x, 2, 0, 4);
        judged(x, 2, 0, 4, 4);
        judged(x, 2, 0, 4, 3);
        judged(x, -1, 0, 4, 1);
        judged(x, 3, 0, 1, 5);
        judged(x, 3, 0, 1, 5, 6);
        judged(x, -1, 0, 1, 5, 3, 6);
        judged(x, -1, 2, 0, 4, 1, 5, 3, 6);
        judged(x, 3, 0, 1, 3, 6);
        judged(x, 4, 2, 3, 1, 0, 2);
        put(x, 0, 2, 0, 4, 1, 5, 3, 6);
        // (1 + 1) * 3 * 4 * -1 + 5 * 2
        Due.is("39: means", x.means(0, 7), -14);
        Due.is("39: the first of them", x.means(0, 4), -24);
        Due.is("38: the first of them", x.judge(0, 3), 3);
        x.row(1, 3, 2);
        x.set(1, 0, 1L << 32);
        x.set(1, 1, 1);
        Due.is("38: nobody", x.judge(1, 2), 0);
        x.row(2, 4, 2);
        x.set(2, 1, 77);
        Due.is("39: booleans are numbers", x.means(2, 2), 12);
        int refused = x.status(12);
        Due.is("38: BAD", x.judge(8, 0) + x.judge(-1, 0) + x.judge(0, -1) + x.judge(0, 41) + x.judge(0, 8), -10);
        Due.is("39: BAD", x.means(8, 0), TELL - 2);
        Due.is("39: BAD", x.means(0, 41), TELL - 2);
        Due.is("39: BAD", x.means(0, 8), TELL - 2);
        Due.is("39: counted", x.status(12), refused + 8);
        Due.is("38: NOTHING", x.judge(3, 40), -4);
        Due.is("39: NOTHING", x.means(3, 40), TELL - 4);
        x.show(3, 0);
        Due.is("38: OTHER", x.judge(3, 40), -3);
        Due.is("39: OTHER", x.means(3, 40), TELL - 3);
        Due.is("38: BAD ahead", x.judge(3, 41), -2);
    }

    private static void standing() {
        VowOfOneWord x = new VowOfOneWord();
        x.brother(1, 1, 3);
        x.brother(2, 1, 24);
        x.brother(1, 1, 5);
        put(x, 0, 0, 1);
        // from 3: 0 and 2 steps; from 2: 1, 3; from 4: 1, 3
        Due.is("40: soon", x.stands(0, 2, 0), 2);
        Due.is("40: column", x.stands(0, 2, 1), 3);
        Due.is("40: calm", x.stands(0, 2, 2), 0);
        x.goes(1, 14);
        x.goes(0, 1);
        // from 1: 0, 3; from 2: 1, 2; from 3: 2, 1
        Due.is("40: of several the first", x.stands(0, 2, 1), 2);
        Due.is("40: soon", x.stands(0, 2, 0), 2);
        put(x, 0, 0, 1, 2);
        x.feud(0, 1, true);
        x.feud(0, 2, true);
        Due.is("40: side by side", x.stands(0, 3, 2), 1);
        x.feud(1, 2, true);
        Due.is("40: side by side", x.stands(0, 3, 2), 2);
        Due.is("40: BAD", x.stands(0, 3, 3) + x.stands(0, 3, -1) + x.stands(0, 4, 0) + x.stands(8, 0, 0) + x.stands(0, 41, 0), -10);
        Due.is("40: BAD ahead", x.stands(1, 0, 3), -2);
        Due.is("40: NOTHING", x.stands(1, 0, 0), -4);
        x.show(1, 0);
        Due.is("40: OTHER", x.stands(1, 0, 0), -3);
        Due.is("40: STUCK", x.stands(0, 1, 2), -5);
        VowOfOneWord y = seven();
        y.feud(0, 4, true);
        y.feud(6, 3, true);
        put(y, 0, 2, 0, 4, 1, 5, 3, 6);
        Due.is("40: seven", y.stands(0, 7, 2), 2);
        Due.is("40: seven", y.stands(0, 7, 0), -5);
        Due.is("40: seven", y.stands(0, 7, 1), -5);
        Due.is("41: seven", y.done(0, 7), -5);
        put(y, 0, 0, 4, 1, 5, 3, 6);
        Due.is("40: six have one column", y.stands(0, 6, 1), 0);
        // 5 from 55 to 3 goes 7, 4 from 44 to 1 goes 7
        Due.is("40: six", y.stands(0, 6, 0), 7);
        Due.is("41: six", y.done(0, 6), 1);
        Due.is("41: the sixth", y.brotherOf(6, 2), 5);
        Due.is("41: the second", y.brotherOf(4, 2), 1);
        y.goes(0, 4);
        y.goes(1, 5);
        put(y, 0, 0, 1);
        Due.is("40: the last column", y.stands(0, 2, 1), 4);
        y.goes(0, 55);
        y.goes(4, 55);
        y.goes(1, 55);
        put(y, 0, 0, 4, 1);
        // from 3: 5 and 2, 1, 0
        Due.is("40: not beyond the rock", y.stands(0, 3, 1), 3);
        Due.is("40: row and column", y.stands(0, 3, 0), 7);
    }

    private static void done() {
        VowOfOneWord x = seven();
        put(x, 0, 0, 1, 3);
        // from 0: 0, 1 and 4 steps; from 1: 1, 2, 3; from 2: 2, 3, 4
        Due.is("41: column", x.stands(0, 3, 1), 1);
        Due.is("41: done", x.done(0, 3), 1);
        Due.is("41: he stands", x.brotherOf(0, 2), 1);
        Due.is("41: he stands", x.brotherOf(1, 2), 2);
        Due.is("41: he stands", x.brotherOf(3, 2), 3);
        Due.is("41: the others don't", x.brotherOf(2, 2), 22);
        Due.is("41: soon then", x.stands(0, 3, 0), 0);
        Due.is("41: again", x.done(0, 2), 2);
        Due.is("41: sayings", x.status(4), 2);
        Due.is("41: STUCK", x.done(0, 1), -5);
        Due.is("41: BAD", x.done(0, 4) + x.done(8, 0) + x.done(0, -1), -6);
        Due.is("41: NOTHING", x.done(1, 2), -4);
        x.show(1, 0);
        Due.is("41: OTHER", x.done(1, 2), -3);
        Due.is("41: nothing changed", x.status(4), 2);
    }

    private static void peace() {
        VowOfOneWord x = seven();
        Due.is("42: no feuds", x.peace(3), -1);
        Due.is("42: not refused", x.status(12) + x.status(15), 0);
        Due.is("42: BAD", x.peace(2) + x.peace(6), -4);
        x.feud(2, 5, true);
        x.feud(3, 4, true);
        // 2 5 side by side in none of 3; 3 4 1, 3 4 6 with 3 4
        Due.is("42: most", x.peace(3), 34);
        x.feud(0, 1, true);
        // 0 1 3, 3 1 0, 2 0 1
        Due.is("42: most", x.peace(3), 1);
        x.feud(1, 3, true);
        // 0 1 3 and 3 1 0 have two now; 2 0 1 has one, so has 2 3 1, so have 3 4 1, 3 4 6
        Due.is("42: most", x.peace(3), 34);
        VowOfOneWord z = seven();
        z.feud(0, 1, true);
        z.feud(5, 3, true);
        // with 5 3: 0 1 5 3 6, 0 6 5 3 1, and 3 6 5 0 1 with 0 1, as 2 0 1 2 3 has none
        Due.is("42: by five", z.peace(5), 1);
        z.feud(0, 1, false);
        Due.is("42: by five", z.peace(5), 35);
        VowOfOneWord y = seven();
        y.feud(2, 5, true);
        y.feud(1, 4, true);
        y.dies(4);
        Due.is("42: of several the first", y.peace(3), 14);
    }

    /** One of 20, so of 21 in a year, and a draw. */
    private static void drawn(int draw, int died) {
        VowOfOneWord x = new VowOfOneWord();
        x.brother(0, 0, 0);
        int seed = 0;
        while ((seedBehind(seed) >>> 16) % 200 != draw) {
            seed++;
        }
        x.seed(seed);
        Due.is("43: a draw of " + draw, x.years(1), died);
    }

    private static int seedBehind(int seed) {
        return seed * 1103515245 + 12345;
    }

    private static void years() {
        VowOfOneWord x = new VowOfOneWord();
        Due.is("43: nobody", x.years(50), 0);
        Due.is("43: no draw", x.status(7), 1);
        Due.is("43: BAD", x.years(0) + x.years(51), -4);
        x.brother(0, 0, 0);
        x.brother(0, 0, 0);
        x.age(1, 99);
        int one = seedBehind(1);
        int two = seedBehind(one);
        boolean dies0 = (one >>> 16) % 200 < 21;
        boolean dies1 = (two >>> 16) % 200 < 99;
        Due.is("43: one year", x.years(1), (dies0 ? 1 : 0) + (dies1 ? 1 : 0));
        Due.is("43: first", x.brotherOf(0, 5) * 100 + x.brotherOf(0, 3), dies0 ? 21 : 121);
        Due.is("43: second", x.brotherOf(1, 5) * 1000 + x.brotherOf(1, 3), dies1 ? 99 : 1099);
        drawn(21, 0);
        drawn(20, 1);
        Due.is("44: the one ahead", x.seed(7), two);
        Due.is("44: seed", x.seed(-5), 7);
        Due.is("44: seed", x.status(7), -5);
        VowOfOneWord y = new VowOfOneWord();
        y.brother(0, 0, 0);
        int seed = 1;
        int age = 20;
        boolean lives = true;
        for (int year = 0; year < 50 && lives; year++) {
            seed = seedBehind(seed);
            age = Math.min(99, age + 1);
            lives = (seed >>> 16) % 200 >= age;
        }
        Due.is("43: fifty years", y.years(50), lives ? 0 : 1);
        Due.is("43: age then", y.brotherOf(0, 3), age);
        Due.is("43: no draws for the dead", y.status(7), seed);
    }

    private static void images() {
        VowOfOneWord x = new VowOfOneWord();
        Due.is("46: STUCK", x.back(), -5);
        x.brother(1, 2, 3);
        x.brother(2, 2, 3);
        x.need(5);
        x.seed(9);
        x.feed(32);
        put(x, 0, 0, 1);
        x.done(0, 2);
        Due.is("45: image", x.image(), 1);
        x.brother(2, 4, 4);
        x.brother(2, 4, 4);
        x.dies(0);
        x.need(6);
        x.seed(10);
        x.feed(32);
        x.feud(0, 1, true);
        x.age(1, 50);
        x.goes(1, 50);
        x.show(1, 3);
        x.show(2, 1);
        x.show(3, 2);
        x.show(7, 2);
        x.row(4, 0, 0);
        x.set(0, 1, 3);
        Due.is("46: said ahead", x.said(5, 0), 0);
        Due.is("46: back", x.back(), 1);
        Due.is("46: brothers", x.status(0) * 10 + x.status(1), 22);
        Due.is("46: needs", x.status(2), 1);
        Due.is("46: feuds", x.status(3), 0);
        Due.is("46: sayings", x.status(4), 1);
        Due.is("46: ages", x.status(5), 40);
        Due.is("46: seed", x.status(7), 9);
        Due.is("46: where they stand", x.brotherOf(0, 2) * 10 + x.brotherOf(1, 2), 23);
        Due.is("46: said again", x.said(5, 0), 1);
        Due.is("46: tape is as it was", x.status(6), 2);
        Due.is("46: refusals are as they were", x.status(15), 1);
        Due.is("46: rows are as they were", x.element(0, 1), 3);
        Due.is("46: no such brother any more", x.holds(1), -1);
        Due.is("46: the one of that number", x.holds(2), 11);
        Due.is("46: no such brother any more", x.holds(3), -1);
        Due.is("46: no such brother any more", x.holds(7), -1);
        Due.is("46: a row", x.holds(4), 0);
        x.dies(1);
        x.brother(0, 0, 0);
        x.show(0, 2);
        Due.is("46: back once more", x.back(), 1);
        Due.is("46: no such brother any more", x.holds(0), -1);
        Due.is("46: he lives", x.status(1), 2);
        x.dies(1);
        x.image();
        x.brother(0, 0, 0);
        x.back();
        Due.is("45: image anew", x.status(1) * 10 + x.status(0), 12);
    }

    private static void status() {
        VowOfOneWord x = seven();
        x.feud(0, 1, true);
        x.feud(2, 1, true);
        x.age(3, 50);
        x.dies(0);
        x.row(0, 0, 0);
        x.show(1, 0);
        x.show(2, -1);
        Due.is("47: brothers", x.status(0), 7);
        Due.is("47: who live", x.status(1), 6);
        Due.is("47: feuds", x.status(3), 2);
        Due.is("47: ages", x.status(5), 150);
        Due.is("47: shelves", x.status(8), 2);
        x.needOf(0);
        x.dies(9);
        x.means(1, 0);
        x.set(3, 0, 0);
        x.set(4, 0, 0);
        x.set(5, 0, 0);
        x.dies(0);
        x.means(0, 0);
        x.first(3);
        x.lost(0, -1);
        for (int i = 0; i < 9; i++) {
            x.need(0);
        }
        Due.is("47: BAD", x.status(12), 4);
        Due.is("47: OTHER", x.status(13), 1);
        Due.is("47: NOTHING", x.status(14), 3);
        Due.is("47: STUCK", x.status(15), 2);
        Due.is("47: FULL", x.status(16), 1);
        int[] none = {-1, 9, 10, 11, 17, Integer.MIN_VALUE, Integer.MAX_VALUE};
        for (int what : none) {
            Due.is("47: NONE", x.status(what), -1);
        }
        Due.is("47: not refused", x.status(12), 4);
    }

    /** The brothers who have most rows that may become sayings, and those who have most sayings. */
    private static void fullest() {
        VowOfOneWord x = new VowOfOneWord();
        for (int b = 0; b < 10; b++) {
            x.brother(b < 5 ? 1 : b < 8 ? 2 : 5, 9, 0);
        }
        Due.is("22: N D A N D N, N D N A N D", x.many(6, 0), 1440);
        Due.is("22: N D A N D", x.many(5, 0), 240);
        VowOfOneWord y = new VowOfOneWord();
        for (int b = 0; b < 10; b++) {
            y.brother(b < 5 ? 1 : b < 9 ? 2 : 5, 9, 0);
        }
        Due.is("22: N D A N D N, N D N A N D", y.many(6, 0), 1440);
        VowOfOneWord z = new VowOfOneWord();
        for (int b = 0; b < 10; b++) {
            z.brother(b < 4 ? 1 : b < 6 ? 2 : 3, 9, 0);
        }
        // M N D M N alone: 4 3 4 3 2
        Due.is("22: M N D M N", z.many(5, 0), 288);
        VowOfOneWord w = new VowOfOneWord();
        int[] kinds = {3, 1, 4, 2, 3, 1};
        for (int kind : kinds) {
            w.brother(kind, 9, 0);
        }
        Due.is("39: the least of all", w.shortest(-900, 6, true, -1), 6);
        Due.is("21: the greatest", w.said(5, 2), 900);
        Due.is("36: all of them", w.ran(63, 1), 1);
    }

    /** No call may throw, whatever it is told. */
    private static void wildest() {
        int[] wild = {Integer.MIN_VALUE, -100, -1, 0, 7, 31, 32, 64, 1000, Integer.MAX_VALUE};
        VowOfOneWord x = seven();
        put(x, 0, 0, 1);
        for (int a : wild) {
            for (int b : wild) {
                x.set(a, b, a);
                x.element(a, b);
                x.show(a, b);
                x.says(a, b);
                x.feud(a, b, true);
                x.age(a, b);
                x.goes(a, b);
                x.brotherOf(a, b);
                x.said(a, b);
                x.many(a, b);
                x.without(a, b);
                x.lost(a, b);
                x.ran(a, b);
                x.meant(a, b);
                x.judge(a, b);
                x.means(a, b);
                x.done(a, b);
                for (int c : wild) {
                    x.row(a, b, c);
                    x.brother(a, b, c);
                    x.stands(a, b, c);
                    x.shortest(a, b, true, c);
                    x.copy(a, 0, b, c, a);
                    x.copy(0, 0, a, b, c);
                }
            }
            x.need(a);
            x.dies(a);
            x.feed(a);
            x.needOf(a);
            x.who(a);
            x.nearest(a);
            x.first(a);
            x.longest(a);
            x.choice(a);
            x.peace(a);
            x.years(a);
            x.holds(a);
            x.status(a);
        }
        Due.that("no call threw", true);
    }
}
