/** The calls that README.md shows, with the answers that it tells. */
final class ReadmeTest {
    private ReadmeTest() {
    }

    public static void main(String[] args) {
        VowOfOneWord x = new VowOfOneWord();
        Due.is("brother, a NAME", x.brother(1, 3, 0), 0);
        Due.is("brother, a DEED", x.brother(2, 4, 11), 1);
        Due.is("need", x.need(12), 0);
        Due.is("met", x.met(), 1);
        Due.is("shortest, how many", x.shortest(12, 6, false, -1), 2);
        Due.is("shortest, the first", x.shortest(12, 6, false, 0), 0);
        Due.is("row", x.row(5, 0, 2), 1);
        Due.is("set", x.set(5, 1, 1), 1);
        Due.is("judge", x.judge(5, 2), -1);
        Due.is("means", x.means(5, 2), 12);
        Due.is("done", x.done(5, 2), 1);
        int size = 0;
        for (char c : "less 12; brother 4 0 0".toCharArray()) {
            size++;
            Due.is("feed", x.feed(c), size);
        }
        Due.is("the tape's size", size, 22);
        Due.is("rock", x.rock(), 2);
        Due.is("met, with the NOT", x.met(), 3);
        Due.is("age", x.age(9, 30), -2);
        Due.is("status", x.status(12), 1);
        Due.is("NONE", VowOfOneWord.NONE, -1);
        Due.end("ReadmeTest");
    }
}
