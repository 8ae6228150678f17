import java.util.Random;

/** Random runs of calls, the same each time, held against the oracle. */
final class RandomRunsTest {
    private static final int RUNS = 1500;
    /** Behind these calls the answers are free. */
    private static final int CALLS = 512;
    private static final int STATUSES = 17;
    private static final int OPS = 46;
    private static final int[] EDGES = {
        Integer.MIN_VALUE, Integer.MAX_VALUE, -1, -2, -10000, 10000, -9999, 9999, 1000, -1000, 64, 41, 40, 100, 256, 1 << 30,
    };

    private final Random random;
    private final VowOfOneWord real = new VowOfOneWord();
    private final Oracle due = new Oracle();
    private final String name;
    private int calls;

    private RandomRunsTest(int seed) {
        random = new Random(seed);
        name = "random run " + seed;
    }

    public static void main(String[] args) {
        int from = args.length > 1 ? Integer.parseInt(args[1]) : 1;
        int runs = args.length > 2 ? Integer.parseInt(args[2]) : RUNS;
        for (int seed = from; seed < from + runs; seed++) {
            new RandomRunsTest(seed).run();
        }
        Due.end("RandomRunsTest");
    }

    private void run() {
        int men = random.nextInt(4) == 0 ? random.nextInt(5) : 6 + random.nextInt(6);
        for (int i = 0; i < men; i++) {
            one(8);
        }
        for (int i = random.nextInt(10); i > 0; i--) {
            one(10);
        }
        for (int i = random.nextInt(12); i > 0; i--) {
            one(9);
        }
        while (calls < CALLS - STATUSES) {
            int op = random.nextInt(OPS + 1);
            // What changes the house for good comes more rarely, or nobody lives for long.
            boolean isHeavy = op == 12 || op == 42;
            boolean isLong = op == 15 || op == 45;
            if (random.nextInt(isHeavy ? 25 : isLong ? 8 : 1) == 0) {
                one(op);
            }
        }
        for (int what = 0; what < STATUSES; what++) {
            is("status(" + what + ")", real.status(what), due.status(what));
        }
    }

    private void is(String call, long got, long want) {
        calls++;
        if (calls <= CALLS) {
            Due.is(name + ", call " + calls + ", " + call, got, want);
        }
    }

    private int edge(int usual) {
        return random.nextInt(40) == 0 ? EDGES[random.nextInt(EDGES.length)] : usual;
    }

    /** 0 up to what is one too many, with -1 at times. */
    private int upTo(int n) {
        return edge(random.nextInt(60) == 0 ? -1 : random.nextInt(20) == 0 ? n : random.nextInt(Math.max(n, 1)));
    }

    private int man() {
        return upTo(due.now.men.size());
    }

    private int shelf() {
        return random.nextInt(3) == 0 ? upTo(8) : edge(random.nextInt(3));
    }

    private int cell() {
        return edge(random.nextInt(20) == 0 ? random.nextInt(70) : random.nextInt(6) * 10 + random.nextInt(6));
    }

    private int kind() {
        return edge(random.nextInt(30) == 0 ? 6 : "0111112222334455".charAt(random.nextInt(16)) - '0');
    }

    private java.util.List<Integer> someSaying() {
        var all = due.now.sayings();
        return all.isEmpty() ? java.util.List.of() : all.get(random.nextInt(all.size()));
    }

    private int meaning() {
        if (random.nextInt(3) != 0) {
            return due.now.meaning(someSaying());
        }
        if (random.nextInt(8) == 0) {
            return edge(random.nextInt(2100) - 1050);
        }
        return edge(random.nextInt(120) - 40);
    }

    private int need() {
        return upTo(due.now.needs.size());
    }

    private int set() {
        int set = 0;
        if (random.nextInt(3) != 0) {
            for (int b : someSaying()) {
                set |= 1 << b;
            }
            return set;
        }
        for (int i = random.nextInt(8); i > 0; i--) {
            set |= 1 << random.nextInt(Math.max(1, due.now.men.size()));
        }
        return edge(random.nextInt(30) == 0 ? set | 1 << random.nextInt(32) : set);
    }

    private void one(int op) {
        if (op < 16) {
            change(op);
        } else if (op < 35) {
            ask(op);
        } else {
            tell(op);
        }
    }

    private void change(int op) {
        int b = man();
        int c = man();
        int s = shelf();
        switch (op) {
            case 0 -> {
                int sort = random.nextInt(2) == 0 ? 0 : upTo(5);
                int n = edge(random.nextInt(3) == 0 ? upTo(40) : random.nextInt(12));
                is("row(" + s + ", " + sort + ", " + n + ")", real.row(s, sort, n), due.row(s, sort, n));
            }
            case 1 -> {
                int i = upTo(8);
                long v = random.nextInt(3) == 0 ? random.nextLong() : man();
                is("set(" + s + ", " + i + ", " + v + ")", real.set(s, i, v), due.set(s, i, v));
            }
            case 2 -> {
                int q = shelf();
                int i = upTo(8);
                int j = upTo(8);
                int n = upTo(8);
                is("copy(" + s + ", " + q + ", " + i + ", " + j + ", " + n + ")",
                    real.copy(s, q, i, j, n), due.copy(s, q, i, j, n));
            }
            case 3 -> {
                int i = upTo(12);
                is("element(" + s + ", " + i + ")", real.element(s, i), due.element(s, i));
            }
            case 4 -> is("holds(" + s + ")", real.holds(s), due.holds(s));
            case 5 -> is("show(" + s + ", " + b + ")", real.show(s, b), due.show(s, b));
            case 6, 7 -> {
                int kind = random.nextBoolean() ? 0 : kind();
                is("says(" + s + ", " + kind + ")", real.says(s, kind), due.says(s, kind));
            }
            case 8 -> {
                int kind = kind();
                int a = upTo(10);
                int cell = cell();
                is("brother(" + kind + ", " + a + ", " + cell + ")", real.brother(kind, a, cell), due.brother(kind, a, cell));
            }
            case 9 -> {
                boolean is = random.nextInt(4) != 0;
                is("feud(" + b + ", " + c + ", " + is + ")", real.feud(b, c, is), due.feud(b, c, is));
            }
            case 10 -> {
                int m = meaning();
                is("need(" + m + ")", real.need(m), due.need(m));
            }
            case 11 -> {
                int v = upTo(100);
                is("age(" + b + ", " + v + ")", real.age(b, v), due.age(b, v));
            }
            case 12 -> is("dies(" + b + ")", real.dies(b), due.dies(b));
            case 13 -> {
                int cell = cell();
                is("goes(" + b + ", " + cell + ")", real.goes(b, cell), due.goes(b, cell));
            }
            case 14 -> {
                if (random.nextInt(6) == 0) {
                    is("wipe()", real.wipe(), due.wipe());
                }
            }
            default -> readRock();
        }
    }

    private void readRock() {
        String text = random.nextInt(10) == 0 ? "" : statement();
        for (int i = random.nextInt(4); i > 0; i--) {
            text += gap() + ";" + gap() + statement();
        }
        if (random.nextInt(3) == 0) {
            int at = random.nextInt(text.length() + 1);
            int cut = Math.min(text.length(), at + random.nextInt(3));
            text = text.substring(0, at) + "; 9zA\u00e9".charAt(random.nextInt(6)) + text.substring(cut);
        }
        for (char c : text.toCharArray()) {
            is("feed(" + (int) c + ")", real.feed(c), due.feed(c));
        }
        int odd = edge(32);
        is("feed(" + odd + ")", real.feed(odd), due.feed(odd));
        is("rock() of '" + text + "'", real.rock(), due.rock());
    }

    private String gap() {
        return random.nextInt(3) == 0 ? " " : "";
    }

    private String number(int n) {
        String digits = Integer.toString(n < 0 ? 0 : n % 2000);
        return " " + gap() + (random.nextInt(10) == 0 ? "0" : "") + digits;
    }

    private String statement() {
        return switch (random.nextInt(9)) {
            case 0, 1, 2 -> "brother" + number(kind()) + number(upTo(10)) + number(cell());
            case 3 -> "feud" + number(man()) + number(man());
            case 4 -> "peace" + number(man()) + number(man());
            case 5 -> "need" + number(random.nextInt(1000));
            case 6 -> "less" + number(random.nextInt(1000));
            case 7 -> "age" + number(man()) + number(upTo(100));
            default -> random.nextInt(3) == 0 ? "dies" + number(man()) : "need" + number(random.nextInt(40));
        };
    }

    private void ask(int op) {
        int what = upTo(3);
        int two = upTo(2);
        int n = edge(1 + random.nextInt(7));
        int b = man();
        int m = meaning();
        int i = random.nextInt(4) == 0 ? -1 : upTo(6);
        switch (op) {
            case 16 -> {
                int w = upTo(6);
                is("brotherOf(" + b + ", " + w + ")", real.brotherOf(b, w), due.brotherOf(b, w));
            }
            case 17 -> {
                int need = need();
                is("needOf(" + need + ")", real.needOf(need), due.needOf(need));
            }
            case 18, 19 -> {
                boolean calm = random.nextBoolean();
                is("shortest(" + m + ", " + n + ", " + calm + ", " + i + ")",
                    real.shortest(m, n, calm, i), due.shortest(m, n, calm, i));
            }
            case 20 -> is("said(" + n + ", " + what + ")", real.said(n, what), due.said(n, what));
            case 21 -> is("many(" + n + ", " + two + ")", real.many(n, two), due.many(n, two));
            case 22 -> is("who(" + what + ")", real.who(what), due.who(what));
            case 23 -> is("nearest(" + m + ")", real.nearest(m), due.nearest(m));
            case 24 -> is("first(" + what + ")", real.first(what), due.first(what));
            case 25 -> is("crowd()", real.crowd(), due.crowd());
            case 26 -> is("gather()", real.gather(), due.gather());
            case 27 -> is("alone()", real.alone(), due.alone());
            case 28 -> is("lasting()", real.lasting(), due.lasting());
            case 29 -> is("longest(" + two + ")", real.longest(two), due.longest(two));
            case 30 -> is("met()", real.met(), due.met());
            case 31 -> is("without(" + b + ", " + two + ")", real.without(b, two), due.without(b, two));
            case 32 -> is("mightiest()", real.mightiest(), due.mightiest());
            case 33 -> is("choice(" + two + ")", real.choice(two), due.choice(two));
            default -> {
                int need = need();
                int place = edge(random.nextInt(4) - 1);
                is("lost(" + need + ", " + place + ")", real.lost(need, place), due.lost(need, place));
            }
        }
    }

    private void tell(int op) {
        int s = shelf();
        int n = edge(random.nextInt(13));
        switch (op) {
            case 35 -> {
                int set = set();
                int what = upTo(3);
                is("ran(" + set + ", " + what + ")", real.ran(set, what), due.ran(set, what));
            }
            case 36 -> {
                int set = set();
                int m = meaning();
                is("meant(" + set + ", " + m + ")", real.meant(set, m), due.meant(set, m));
            }
            case 37, 38, 39, 40 -> {
                if (random.nextInt(5) != 0) {
                    n = putSaying(s);
                }
                told(op, s, n);
            }
            case 41 -> {
                int p = edge(2 + random.nextInt(5));
                is("peace(" + p + ")", real.peace(p), due.peace(p));
            }
            case 42 -> {
                int y = random.nextInt(4) == 0 ? upTo(51) : 1 + random.nextInt(3);
                is("years(" + y + ")", real.years(y), due.years(y));
            }
            case 43 -> {
                int v = random.nextInt();
                is("seed(" + v + ")", real.seed(v), due.seed(v));
            }
            case 44 -> {
                if (random.nextInt(3) == 0) {
                    is("image()", real.image(), due.image());
                }
            }
            case 45 -> is("back()", real.back(), due.back());
            default -> {
                int what = edge(random.nextInt(18));
                is("status(" + what + ")", real.status(what), due.status(what));
            }
        }
    }

    private void told(int op, int s, int n) {
        int what = upTo(3);
        switch (op) {
            case 37 -> is("judge(" + s + ", " + n + ")", real.judge(s, n), due.judge(s, n));
            case 38 -> is("means(" + s + ", " + n + ")", real.means(s, n), due.means(s, n));
            case 39 -> is("stands(" + s + ", " + n + ", " + what + ")", real.stands(s, n, what), due.stands(s, n, what));
            default -> is("done(" + s + ", " + n + ")", real.done(s, n), due.done(s, n));
        }
    }

    /** Puts a row that is mostly a saying, at times two of them with one who may stand between: its length. */
    private int putSaying(int s) {
        java.util.List<Integer> row = new java.util.ArrayList<>();
        int parts = random.nextInt(3) == 0 ? 2 : 1;
        for (int part = 0; part < parts; part++) {
            row.addAll(someSaying());
            if (part + 1 < parts) {
                row.add(man());
            }
        }
        if (random.nextInt(3) == 0 && !row.isEmpty()) {
            row.set(random.nextInt(row.size()), man());
        }
        int sort = random.nextInt(4);
        is("row(" + s + ", " + sort + ", " + row.size() + ")", real.row(s, sort, row.size()), due.row(s, sort, row.size()));
        for (int i = 0; i < row.size(); i++) {
            is("set(" + s + ", " + i + ", " + row.get(i) + ")", real.set(s, i, row.get(i)), due.set(s, i, row.get(i)));
        }
        return row.size();
    }
}
