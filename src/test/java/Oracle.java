import java.util.ArrayList;
import java.util.HashMap;
import java.util.List;
import java.util.Map;
import java.util.TreeSet;
import java.util.regex.Matcher;
import java.util.regex.Pattern;

/**
 * The document done over in the slowest and plainest way, with the whole Java library, to hold the program
 * against: sayings are told by a regular expression, and what would be without one is found by killing him.
 */
final class Oracle {
    private static final String LETTERS = "WNDMTA";
    private static final String CLAUSE = "M?NT?D(M?N)?";
    private static final Pattern SAYING = Pattern.compile(CLAUSE + "(A" + CLAUSE + ")*");
    private static final Pattern TOKEN = Pattern.compile(" *([a-z]+|[0-9]+|;|$|.)", Pattern.DOTALL);
    private static final Map<String, Boolean> GOES_ON = new HashMap<>();
    private static final Map<String, List<List<Integer>>> SAYINGS = new HashMap<>();
    private static final int TELL = -100000000;

    static final class Man {
        int kind, a, cell, age = 20;
        boolean lives = true;
        TreeSet<Integer> feuds = new TreeSet<>();

        Man(int kind, int a, int cell) {
            this.kind = kind;
            this.a = a;
            this.cell = cell;
        }

        Man copy() {
            Man m = new Man(kind, a, cell);
            m.age = age;
            m.lives = lives;
            m.feuds = new TreeSet<>(feuds);
            return m;
        }
    }

    static final class Home {
        List<Man> men = new ArrayList<>();
        List<Integer> needs = new ArrayList<>();
        int said, seed = 1;

        Home copy() {
            Home h = new Home();
            for (Man m : men) {
                h.men.add(m.copy());
            }
            h.needs.addAll(needs);
            h.said = said;
            h.seed = seed;
            return h;
        }

        boolean has(long b) {
            return b >= 0 && b < men.size();
        }

        boolean lives(long b) {
            return has(b) && men.get((int) b).lives;
        }

        int living() {
            int n = 0;
            for (Man m : men) {
                n += m.lives ? 1 : 0;
            }
            return n;
        }

        String kindsOf(List<Integer> row) {
            StringBuilder s = new StringBuilder();
            for (int b : row) {
                s.append(LETTERS.charAt(men.get(b).kind));
            }
            return s.toString();
        }

        List<List<Integer>> sayings() {
            StringBuilder key = new StringBuilder();
            for (Man m : men) {
                key.append(m.lives ? LETTERS.charAt(m.kind) : 'x');
            }
            List<List<Integer>> all = SAYINGS.get(key.toString());
            if (all == null) {
                all = new ArrayList<>();
                collect(new ArrayList<>(), all);
                all.sort(Oracle::byLengthThenRow);
                SAYINGS.put(key.toString(), all);
            }
            return all;
        }

        private void collect(List<Integer> row, List<List<Integer>> all) {
            String kinds = kindsOf(row);
            if (SAYING.matcher(kinds).matches()) {
                all.add(new ArrayList<>(row));
            }
            if (row.size() == 6 || !goesOn(kinds)) {
                return;
            }
            for (int b = 0; b < men.size(); b++) {
                if (men.get(b).lives && !row.contains(b)) {
                    row.add(b);
                    collect(row, all);
                    row.remove(row.size() - 1);
                }
            }
        }

        List<List<Integer>> upTo(int n) {
            List<List<Integer>> some = new ArrayList<>();
            for (List<Integer> row : sayings()) {
                if (row.size() <= n) {
                    some.add(row);
                }
            }
            return some;
        }

        int meaning(List<Integer> row) {
            if (row.isEmpty()) {
                return 0;
            }
            int all = 0;
            int from = 0;
            for (int i = 0; i <= row.size(); i++) {
                if (i == row.size() || men.get(row.get(i)).kind == 5) {
                    all += clause(row.subList(from, i));
                    from = i + 1;
                }
            }
            return all;
        }

        private int clause(List<Integer> row) {
            String kinds = kindsOf(row);
            int deed = kinds.indexOf('D');
            int value = thing(row.subList(0, deed)) * men.get(row.get(deed)).a + thing(row.subList(deed + 1, row.size()));
            return kinds.indexOf('T') >= 0 ? -value : value;
        }

        private int thing(List<Integer> row) {
            int name = 0;
            int times = 1;
            for (int b : row) {
                if (men.get(b).kind == 1) {
                    name = men.get(b).a;
                }
                if (men.get(b).kind == 3) {
                    times = men.get(b).a + 1;
                }
            }
            return name * times;
        }

        int feudsIn(List<Integer> row) {
            int n = 0;
            for (int i = 0; i + 1 < row.size(); i++) {
                n += men.get(row.get(i)).feuds.contains(row.get(i + 1)) ? 1 : 0;
            }
            return n;
        }

        int met() {
            int bits = 0;
            for (List<Integer> row : upTo(5)) {
                int m = meaning(row);
                for (int i = 0; i < needs.size(); i++) {
                    bits |= needs.get(i) == m ? 1 << i : 0;
                }
            }
            return bits;
        }

        Home without(int... dead) {
            Home h = copy();
            for (int b : dead) {
                h.men.get(b).lives = false;
            }
            return h;
        }

        int draw(int n) {
            seed = seed * 1103515245 + 12345;
            return (seed >>> 16) % n;
        }
    }

    private static int byLengthThenRow(List<Integer> one, List<Integer> other) {
        if (one.size() != other.size()) {
            return Integer.compare(one.size(), other.size());
        }
        for (int i = 0; i < one.size(); i++) {
            if (!one.get(i).equals(other.get(i))) {
                return Integer.compare(one.get(i), other.get(i));
            }
        }
        return 0;
    }

    /** Whether a saying of words begins so: two more words are enough to end any. */
    private static boolean goesOn(String kinds) {
        Boolean known = GOES_ON.get(kinds);
        if (known == null) {
            known = SAYING.matcher(kinds).matches();
            for (char c : LETTERS.toCharArray()) {
                known |= SAYING.matcher(kinds + c).matches();
                for (char d : LETTERS.toCharArray()) {
                    known |= SAYING.matcher(kinds + c + d).matches();
                }
            }
            GOES_ON.put(kinds, known);
        }
        return known;
    }

    Home now = new Home();
    private Home kept;
    private final int[] sort = {-1, -1, -1, -1, -1, -1, -1, -1};
    private final long[][] held = new long[8][];
    private StringBuilder tape = new StringBuilder();
    private final int[] refused = new int[7];

    private int no(int number) {
        refused[-number]++;
        return number;
    }

    private static boolean shelf(int s) {
        return s >= 0 && s <= 7;
    }

    private static boolean cell(int c) {
        return c >= 0 && c <= 55 && c % 10 <= 5;
    }

    private static boolean in(long v, long from, long to) {
        return v >= from && v <= to;
    }

    int row(int s, int sort, int n) {
        if (!shelf(s) || !in(sort, 0, 4) || !in(n, 0, 40)) {
            return no(-2);
        }
        this.sort[s] = sort;
        held[s] = new long[n];
        return 1;
    }

    private int rowNo(int s) {
        return !shelf(s) ? -2 : sort[s] >= 10 ? -3 : sort[s] == -1 ? -4 : 0;
    }

    int set(int s, int i, long v) {
        if (rowNo(s) != 0) {
            return no(rowNo(s));
        }
        if (!in(i, 0, held[s].length - 1)) {
            return no(-2);
        }
        held[s][i] = sort[s] == 0 ? (byte) v : sort[s] == 1 ? (short) v : sort[s] == 2 ? (int) v
            : sort[s] == 3 ? v : v == 0 ? 0 : 1;
        return 1;
    }

    int copy(int p, int q, int i, int j, int n) {
        if (!shelf(p) || !shelf(q)) {
            return no(-2);
        }
        if (sort[p] >= 10 || sort[q] >= 10 || (sort[p] != -1 && sort[q] != -1 && sort[p] != sort[q])) {
            return no(-3);
        }
        if (sort[p] == -1 || sort[q] == -1) {
            return no(-4);
        }
        if (i < 0 || j < 0 || n < 0 || (long) i + n > held[p].length || (long) j + n > held[q].length) {
            return no(-2);
        }
        long[] was = held[p].clone();
        for (int k = 0; k < n; k++) {
            held[q][j + k] = was[i + k];
        }
        return n;
    }

    long element(int s, int i) {
        return rowNo(s) == 0 && in(i, 0, held[s].length - 1) ? held[s][i] : 0;
    }

    int holds(int s) {
        return shelf(s) ? sort[s] : -1;
    }

    int show(int s, int brother) {
        if (!shelf(s) || (brother != -1 && !now.has(brother))) {
            return no(-2);
        }
        sort[s] = brother == -1 ? -1 : 10 + brother;
        held[s] = null;
        return 1;
    }

    int says(int s, int kind) {
        if (!shelf(s) || !in(kind, 0, 5)) {
            return no(-2);
        }
        if (sort[s] == -1) {
            return no(-4);
        }
        if (sort[s] < 10) {
            return no(-3);
        }
        Man m = now.men.get(sort[s] - 10);
        String under = new String[] {"012345", "13", "24", "3", "4", "5"}[kind];
        if (under.indexOf('0' + m.kind) < 0) {
            return no(-3);
        }
        if (kind == 0) {
            return m.a;
        }
        int n = 0;
        for (Man o : now.men) {
            n += o.lives && o.kind == m.kind ? 1 : 0;
        }
        return n;
    }

    int brother(int kind, int a, int cell) {
        if (!in(kind, 0, 5) || !in(a, 0, 9) || !cell(cell)) {
            return no(-2);
        }
        if (now.men.size() == 10) {
            return no(-6);
        }
        now.men.add(new Man(kind, a, cell));
        return now.men.size() - 1;
    }

    int feud(int brother, int other, boolean is) {
        if (!now.has(brother) || !now.has(other) || brother == other) {
            return no(-2);
        }
        return feud(now, brother, other, is);
    }

    private static int feud(Home home, int brother, int other, boolean is) {
        int did = home.men.get(brother).feuds.contains(other) ? 1 : 0;
        if (is) {
            home.men.get(brother).feuds.add(other);
            home.men.get(other).feuds.add(brother);
        } else {
            home.men.get(brother).feuds.remove(other);
            home.men.get(other).feuds.remove(brother);
        }
        return did;
    }

    int need(int meaning) {
        if (!in(meaning, -999, 999)) {
            return no(-2);
        }
        if (now.needs.size() == 8) {
            return no(-6);
        }
        now.needs.add(meaning);
        return now.needs.size() - 1;
    }

    int age(int brother, int v) {
        if (!now.has(brother) || !in(v, 0, 99)) {
            return no(-2);
        }
        int was = now.men.get(brother).age;
        now.men.get(brother).age = v;
        return was;
    }

    int goes(int brother, int cell) {
        if (!now.has(brother) || !cell(cell)) {
            return no(-2);
        }
        int was = now.men.get(brother).cell;
        now.men.get(brother).cell = cell;
        return was;
    }

    int dies(int brother) {
        if (!now.has(brother)) {
            return no(-2);
        }
        if (!now.lives(brother)) {
            return no(-5);
        }
        now.men.get(brother).lives = false;
        return now.living();
    }

    int feed(int letter) {
        if (!in(letter, 0, 255)) {
            return no(-2);
        }
        if (tape.length() == 250) {
            return no(-6);
        }
        tape.append((char) letter);
        return tape.length();
    }

    int wipe() {
        int was = tape.length();
        tape = new StringBuilder();
        return was;
    }

    /** Statements as rows of what may stand: w a word, b a brother, o another than the last, l one who lives. */
    int rock() {
        Home next = now.copy();
        Matcher m = TOKEN.matcher(tape);
        int statements = 0;
        int fault = -1;
        int from = 0;
        String want = "";
        int[] got = new int[4];
        int count = 0;
        String word = "";
        while (fault < 0) {
            m.region(from, tape.length());
            if (!m.lookingAt()) {
                throw new IllegalStateException();
            }
            String token = m.group(1);
            int place = m.start(1);
            from = m.end();
            boolean fits;
            if (word.isEmpty()) {
                want = switch (token) {
                    case "brother" -> next.men.size() < 10 ? "KAC" : "!";
                    case "feud", "peace" -> "bo";
                    case "need", "less" -> next.needs.size() < 8 ? "N" : "!";
                    case "age" -> "bY";
                    case "dies" -> "l";
                    default -> "!";
                };
                fits = !want.equals("!");
                word = token;
                count = 0;
            } else if (count < want.length()) {
                int v = token.matches("[0-9]{1,3}") ? Integer.parseInt(token) : -1;
                fits = switch (want.charAt(count)) {
                    case 'K' -> in(v, 0, 5);
                    case 'A' -> in(v, 0, 9);
                    case 'C' -> cell(v);
                    case 'b' -> next.has(v);
                    case 'o' -> next.has(v) && v != got[count - 1];
                    case 'l' -> next.lives(v);
                    case 'Y' -> in(v, 0, 99);
                    default -> v >= 0;
                };
                got[count++] = v;
                if (fits && count == want.length()) {
                    statements++;
                    apply(next, word, got);
                }
            } else {
                fits = token.equals(";") || token.isEmpty();
                word = "";
                if (token.isEmpty()) {
                    break;
                }
            }
            fault = fits ? -1 : place;
        }
        tape = new StringBuilder();
        if (fault >= 0) {
            no(-2);
            return -20 - fault;
        }
        now = next;
        return statements;
    }

    private static void apply(Home home, String word, int[] got) {
        switch (word) {
            case "brother" -> home.men.add(new Man(got[0], got[1], got[2]));
            case "feud" -> feud(home, got[0], got[1], true);
            case "peace" -> feud(home, got[0], got[1], false);
            case "need" -> home.needs.add(got[0]);
            case "less" -> home.needs.add(-got[0]);
            case "age" -> home.men.get(got[0]).age = got[1];
            default -> home.men.get(got[0]).lives = false;
        }
    }

    int brotherOf(int brother, int what) {
        if (!now.has(brother) || !in(what, 0, 5)) {
            return no(-2);
        }
        Man m = now.men.get(brother);
        int bits = 0;
        for (int f : m.feuds) {
            bits += 1 << f;
        }
        return new int[] {m.kind, m.a, m.cell, m.age, bits, m.lives ? 1 : 0}[what];
    }

    int needOf(int need) {
        return in(need, 0, now.needs.size() - 1) ? now.needs.get(need) : TELL + no(-2);
    }

    int shortest(int meaning, int n, boolean calm, int i) {
        if (!in(meaning, -9999, 9999) || !in(n, 1, 6) || i < -1) {
            return no(-2);
        }
        List<Integer> found = null;
        for (List<Integer> row : now.upTo(n)) {
            if (found == null && now.meaning(row) == meaning && (!calm || now.feudsIn(row) == 0)) {
                found = row;
            }
        }
        if (i == -1) {
            return found == null ? -1 : found.size();
        }
        return found == null || i >= found.size() ? no(-5) : found.get(i);
    }

    private TreeSet<Integer> meanings(List<List<Integer>> rows) {
        TreeSet<Integer> all = new TreeSet<>();
        for (List<Integer> row : rows) {
            all.add(now.meaning(row));
        }
        return all;
    }

    int said(int n, int what) {
        if (!in(n, 1, 5) || !in(what, 0, 2)) {
            return TELL + no(-2);
        }
        TreeSet<Integer> all = meanings(now.upTo(n));
        if (what == 0) {
            return all.size();
        }
        return all.isEmpty() ? TELL + no(-5) : what == 1 ? all.first() : all.last();
    }

    int many(int n, int what) {
        if (!in(n, 1, 6) || !in(what, 0, 1)) {
            return no(-2);
        }
        int count = 0;
        for (List<Integer> row : now.sayings()) {
            count += row.size() == n && (what == 0 || now.feudsIn(row) == 0) ? 1 : 0;
        }
        return count;
    }

    int who(int what) {
        if (!in(what, 0, 2)) {
            return no(-2);
        }
        int bits = 0;
        for (int b = 0; b < now.men.size(); b++) {
            boolean begins = false;
            boolean ends = false;
            boolean stands = false;
            for (List<Integer> row : now.upTo(5)) {
                begins |= row.get(0) == b;
                ends |= row.get(row.size() - 1) == b;
                stands |= row.contains(b);
            }
            if (what == 0 ? begins : what == 1 ? ends : now.lives(b) && !stands) {
                bits += 1 << b;
            }
        }
        return bits;
    }

    int nearest(int meaning) {
        if (!in(meaning, -9999, 9999)) {
            return TELL + no(-2);
        }
        TreeSet<Integer> all = meanings(now.upTo(5));
        if (all.isEmpty()) {
            return TELL + no(-5);
        }
        for (int far = 0; ; far++) {
            if (all.contains(meaning - far)) {
                return meaning - far;
            }
            if (all.contains(meaning + far)) {
                return meaning + far;
            }
        }
    }

    int first(int what) {
        if (!in(what, 0, 2)) {
            return no(-2);
        }
        int best = -1;
        for (int b = now.men.size() - 1; b >= 0; b--) {
            if (now.lives(b) && (best < 0 || weight(b, what) >= weight(best, what))) {
                best = b;
            }
        }
        return best < 0 ? no(-5) : best;
    }

    private int weight(int b, int what) {
        Man m = now.men.get(b);
        return what == 0 ? m.age : what == 1 ? 1000 - m.age : m.feuds.size();
    }

    int crowd() {
        int best = 0;
        int most = 0;
        for (int c = 0; c <= 55; c++) {
            int here = 0;
            for (Man m : now.men) {
                here += m.lives && m.cell == c ? 1 : 0;
            }
            if (here > most) {
                most = here;
                best = c;
            }
        }
        return best;
    }

    private static int steps(int from, int row, int column) {
        return Math.abs(from / 10 - row) + Math.abs(from % 10 - column);
    }

    int gather() {
        int best = 0;
        int fewest = 1000;
        for (int row = 0; row < 6; row++) {
            for (int column = 0; column < 6; column++) {
                int most = 0;
                for (Man m : now.men) {
                    most = m.lives ? Math.max(most, steps(m.cell, row, column)) : most;
                }
                if (most < fewest) {
                    fewest = most;
                    best = 10 * row + column;
                }
            }
        }
        return best;
    }

    int alone() {
        int bits = 0;
        for (int b = 0; b < now.men.size(); b++) {
            boolean alone = now.lives(b);
            for (int f : now.men.get(b).feuds) {
                alone &= !now.lives(f);
            }
            bits += alone ? 1 << b : 0;
        }
        return bits;
    }

    int lasting() {
        long p = 1000000;
        for (Man m : now.men) {
            if (m.lives) {
                int then = m.age == 99 ? 99 : m.age + 1;
                p = p * (200 - then) / 200;
            }
        }
        return (int) p;
    }

    int longest(int what) {
        if (!in(what, 0, 1)) {
            return no(-2);
        }
        int most = 0;
        for (List<Integer> row : now.sayings()) {
            if (what == 0 || now.feudsIn(row) == 0) {
                most = Math.max(most, row.size());
            }
        }
        return most;
    }

    int met() {
        return now.met();
    }

    int without(int brother, int what) {
        if (!now.has(brother) || !in(what, 0, 1)) {
            return no(-2);
        }
        if (!now.lives(brother)) {
            return no(-5);
        }
        int lost = now.met() - (now.met() & now.without(brother).met());
        return what == 0 ? lost : Integer.bitCount(lost);
    }

    int mightiest() {
        if (now.living() == 0) {
            return no(-5);
        }
        int best = -1;
        int most = -1;
        for (int b = 0; b < now.men.size(); b++) {
            if (now.lives(b)) {
                int power = Integer.bitCount(now.met() & ~now.without(b).met());
                if (power > most) {
                    most = power;
                    best = b;
                }
            }
        }
        return best;
    }

    int choice(int what) {
        if (!in(what, 0, 1)) {
            return no(-2);
        }
        if (now.men.size() == 10) {
            return no(-6);
        }
        int best = -1;
        int most = -1;
        for (int guess = 0; guess < 60; guess++) {
            Home h = now.copy();
            h.men.add(new Man(guess / 10, guess % 10, 0));
            int met = Integer.bitCount(h.met());
            if (met > most) {
                most = met;
                best = guess;
            }
        }
        return what == 0 ? best : most;
    }

    int lost(int need, int i) {
        if (!in(need, 0, now.needs.size() - 1) || i < -1) {
            return no(-2);
        }
        List<Integer> dead = fewestDead(need);
        if (i == -1) {
            return dead == null ? -1 : dead.size();
        }
        return dead == null || i >= dead.size() ? no(-5) : dead.get(i);
    }

    private List<Integer> fewestDead(int need) {
        if ((now.met() >> need & 1) == 0) {
            return List.of();
        }
        for (int b = 0; b < now.men.size(); b++) {
            if (now.lives(b) && (now.without(b).met() >> need & 1) == 0) {
                return List.of(b);
            }
        }
        for (int b = 0; b < now.men.size(); b++) {
            for (int c = 0; c < now.men.size(); c++) {
                boolean two = b != c && now.lives(b) && now.lives(c);
                if (two && (now.without(b, c).met() >> need & 1) == 0) {
                    return List.of(b, c);
                }
            }
        }
        return null;
    }

    /** The sayings of just a set; null: it may not be. */
    private List<List<Integer>> ranBy(int set) {
        if (set < 0 || set >= 1 << now.men.size() || Integer.bitCount(set) > 6) {
            return null;
        }
        TreeSet<Integer> who = new TreeSet<>();
        for (int b = 0; b < 10; b++) {
            if ((set >> b & 1) == 1) {
                who.add(b);
                if (!now.lives(b)) {
                    return null;
                }
            }
        }
        List<List<Integer>> rows = new ArrayList<>();
        for (List<Integer> row : now.sayings()) {
            if (new TreeSet<>(row).equals(who)) {
                rows.add(row);
            }
        }
        return rows;
    }

    int ran(int set, int what) {
        List<List<Integer>> rows = ranBy(set);
        if (rows == null || !in(what, 0, 2)) {
            return no(-2);
        }
        return what == 0 ? rows.size() : what == 1 ? meanings(rows).size() : rows.isEmpty() ? -1 : rows.get(0).get(0);
    }

    int meant(int set, int meaning) {
        List<List<Integer>> rows = ranBy(set);
        if (rows == null || !in(meaning, -9999, 9999)) {
            return no(-2);
        }
        return meanings(rows).contains(meaning) ? 1 : 0;
    }

    private int toldNo(int s, int n) {
        if (!shelf(s) || !in(n, 0, 40)) {
            return -2;
        }
        return rowNo(s) != 0 ? rowNo(s) : held[s].length < n ? -2 : 0;
    }

    private int wrong(int s, int n) {
        List<Integer> row = new ArrayList<>();
        for (int i = 0; i < n; i++) {
            long v = held[s][i];
            if (!now.lives(v) || row.contains((int) v)) {
                return i;
            }
            row.add((int) v);
            if (!goesOn(now.kindsOf(row))) {
                return i;
            }
        }
        return SAYING.matcher(now.kindsOf(row)).matches() ? -1 : n;
    }

    private List<Integer> told(int s, int n) {
        List<Integer> row = new ArrayList<>();
        for (int i = 0; i < n; i++) {
            row.add((int) held[s][i]);
        }
        return row;
    }

    int judge(int s, int n) {
        return toldNo(s, n) != 0 ? no(toldNo(s, n)) : wrong(s, n);
    }

    int means(int s, int n) {
        if (toldNo(s, n) != 0) {
            return TELL + no(toldNo(s, n));
        }
        return wrong(s, n) != -1 ? TELL + no(-5) : now.meaning(told(s, n));
    }

    private int soon(List<Integer> row, int c) {
        int most = 0;
        for (int i = 0; i < row.size(); i++) {
            most = Math.max(most, steps(now.men.get(row.get(i)).cell, 0, c + i));
        }
        return most;
    }

    private int column(List<Integer> row) {
        int best = 0;
        for (int c = 6 - row.size(); c >= 0; c--) {
            if (c == 6 - row.size() || soon(row, c) <= soon(row, best)) {
                best = c;
            }
        }
        return best;
    }

    int stands(int s, int n, int what) {
        if (!in(what, 0, 2)) {
            return no(-2);
        }
        if (toldNo(s, n) != 0) {
            return no(toldNo(s, n));
        }
        if (wrong(s, n) != -1 || (what < 2 && n > 6)) {
            return no(-5);
        }
        List<Integer> row = told(s, n);
        return what == 0 ? soon(row, column(row)) : what == 1 ? column(row) : now.feudsIn(row);
    }

    int done(int s, int n) {
        if (toldNo(s, n) != 0) {
            return no(toldNo(s, n));
        }
        if (wrong(s, n) != -1 || n > 6) {
            return no(-5);
        }
        List<Integer> row = told(s, n);
        int c = column(row);
        for (int i = 0; i < n; i++) {
            now.men.get(row.get(i)).cell = c + i;
        }
        return ++now.said;
    }

    int peace(int n) {
        if (!in(n, 3, 5)) {
            return no(-2);
        }
        int calm = many(n, 1);
        int best = -1;
        int most = -1;
        for (int b = 0; b < now.men.size(); b++) {
            for (int c = b + 1; c < now.men.size(); c++) {
                if (now.men.get(b).feuds.contains(c)) {
                    feud(now, b, c, false);
                    int gain = many(n, 1) - calm;
                    feud(now, b, c, true);
                    if (gain > most) {
                        most = gain;
                        best = 10 * b + c;
                    }
                }
            }
        }
        return best;
    }

    int years(int n) {
        if (!in(n, 1, 50)) {
            return no(-2);
        }
        int died = 0;
        for (int y = 0; y < n; y++) {
            for (Man m : now.men) {
                if (m.lives) {
                    m.age = Math.min(99, m.age + 1);
                    m.lives = now.draw(200) >= m.age;
                    died += m.lives ? 0 : 1;
                }
            }
        }
        return died;
    }

    int seed(int v) {
        int was = now.seed;
        now.seed = v;
        return was;
    }

    int image() {
        kept = now.copy();
        return 1;
    }

    int back() {
        if (kept == null) {
            return no(-5);
        }
        now = kept.copy();
        for (int s = 0; s < 8; s++) {
            if (sort[s] >= 10 && !now.has(sort[s] - 10)) {
                sort[s] = -1;
            }
        }
        return 1;
    }

    int status(int what) {
        int pairs = 0;
        int ages = 0;
        for (Man m : now.men) {
            pairs += m.feuds.size();
            ages += m.lives ? m.age : 0;
        }
        int full = 0;
        for (int s : sort) {
            full += s != -1 ? 1 : 0;
        }
        return switch (what) {
            case 0 -> now.men.size();
            case 1 -> now.living();
            case 2 -> now.needs.size();
            case 3 -> pairs / 2;
            case 4 -> now.said;
            case 5 -> ages;
            case 6 -> tape.length();
            case 7 -> now.seed;
            case 8 -> full;
            case 12, 13, 14, 15, 16 -> refused[what - 10];
            default -> -1;
        };
    }
}
