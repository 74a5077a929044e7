import java.math.BigInteger;
import java.util.ArrayList;
import java.util.Arrays;
import java.util.HashSet;
import java.util.List;
import java.util.Random;
import java.util.Set;
import java.util.TreeMap;

/** The terms of the document once more, in their plainest form, to hold the program against. */
final class Oracle {
    static final int NO = 10;

    static final class P {
        int[] proof;
        boolean[][] near = new boolean[10][10];
        int[] patience;
        int[] days;
        int[][] want;

        int places() {
            return proof.length;
        }

        int readers() {
            return patience.length;
        }

        boolean reader(int r) {
            return r >= 0 && r < readers();
        }

        boolean place(int p) {
            return p >= 0 && p < places();
        }
    }

    record Deed(int kind, int a, int b) { }

    record Fact(int place, int word) { }

    // ---- making ----

    static P randomPaper(Random z) {
        P p = new P();
        int words = z.nextInt(3) == 0 ? 2 + z.nextInt(9) : 3 + z.nextInt(4);
        p.proof = new int[z.nextInt(4) == 0 ? z.nextInt(9) : 1 + z.nextInt(4)];
        for (int i = 0; i < p.proof.length; i++) {
            p.proof[i] = z.nextInt(words);
        }
        int couples = z.nextInt(3) == 0 ? z.nextInt(46) : words + z.nextInt(5);
        for (int i = 0; i < couples; i++) {
            int a = z.nextInt(words);
            int b = z.nextInt(words);
            if (a != b) {
                p.near[a][b] = true;
                p.near[b][a] = true;
            }
        }
        int readers = z.nextInt(4) == 0 ? z.nextInt(7) : 2 + z.nextInt(4);
        p.patience = new int[readers];
        p.days = new int[readers];
        p.want = new int[readers][p.proof.length];
        int eager = 1 + z.nextInt(6);
        for (int r = 0; r < readers; r++) {
            p.patience[r] = z.nextInt(5) == 0 ? z.nextInt(10) : 1 + z.nextInt(3);
            p.days[r] = 1 + z.nextInt(9);
            for (int i = 0; i < p.proof.length; i++) {
                p.want[r][i] = z.nextInt(6) < eager ? z.nextInt(words) : NO;
            }
        }
        return p;
    }

    static String text(P p, Random z) {
        StringBuilder s = new StringBuilder();
        for (int w : p.proof) {
            s.append("word ").append(w).append(";");
        }
        for (int a = 0; a < 10; a++) {
            for (int b = a + 1; b < 10; b++) {
                if (p.near[a][b]) {
                    s.append(z.nextBoolean() ? "near" + a + " " + b + ";" : "near" + b + " " + a + ";");
                }
            }
        }
        for (int r = 0; r < p.readers(); r++) {
            s.append("reader ").append(p.patience[r]).append(" ").append(p.days[r]).append(";");
            for (int i = 0; i < p.places(); i++) {
                if (p.want[r][i] != NO) {
                    s.append("wants").append(r).append(" ").append(i).append(" ").append(p.want[r][i]).append(";");
                }
            }
        }
        return s.toString();
    }

    static List<Deed> randomWeek(P p, Random z) {
        List<Deed> week = new ArrayList<>();
        int n = z.nextInt(5) == 0 ? z.nextInt(41) : z.nextInt(16);
        // Most DEEDS are such as can be, so that weeks go on; a few are any.
        for (int i = 0; i < n; i++) {
            Deed d = new Deed(5, -1, -1);
            for (int tries = 0; tries < 30; tries++) {
                int kind = z.nextInt(6);
                int a = kind == 1 ? z.nextInt(8) : kind == 0 || kind == 2 ? z.nextInt(6) : z.nextInt(10);
                int b = kind == 2 ? z.nextInt(8) : z.nextInt(10);
                if (kind >= 3 && kind <= 4 && a == b) {
                    b = (a + 1) % 10;
                }
                d = kind == 5 ? new Deed(5, -1, -1) : kind == 0 ? new Deed(0, a, -1) : new Deed(kind, a, b);
                week.add(d);
                boolean can = new Stand(p).run(week, false) == week.size();
                week.remove(week.size() - 1);
                if (can || z.nextInt(200) == 0) {
                    break;
                }
            }
            week.add(d);
        }
        return week;
    }

    static String weekText(List<Deed> week) {
        String[] names = {"read", "set", "stet", "join", "part", "print"};
        StringBuilder s = new StringBuilder();
        for (Deed d : week) {
            s.append(names[d.kind]);
            if (d.a >= 0) {
                s.append(" ").append(d.a);
            }
            if (d.b >= 0) {
                s.append(" ").append(d.b);
            }
            s.append(";");
        }
        return s.toString();
    }

    static List<Fact> randomLog(P p, Random z) {
        List<Fact> log = new ArrayList<>();
        if (z.nextInt(8) == 0 || p.places() == 0) {
            for (int i = z.nextInt(4); i > 0; i--) {
                log.add(new Fact(z.nextInt(8), z.nextInt(10)));
            }
            return log;
        }
        // FACTS of one row of READERS, so that something FITS.
        List<List<Integer>> all = permutations(p.readers());
        int[] end = after(p, all.get(z.nextInt(all.size())));
        for (int i = z.nextInt(4); i > 0; i--) {
            int place = z.nextInt(p.places());
            log.add(new Fact(place, end[place]));
        }
        return log;
    }

    static String logText(List<Fact> log) {
        StringBuilder s = new StringBuilder();
        for (Fact f : log) {
            s.append("was ").append(f.place).append(" ").append(f.word).append(";\n");
        }
        return s.toString();
    }

    // ---- terms 2 ----

    static final int FAR = 1000;

    static int[][] distances(boolean[][] near) {
        int[][] d = new int[10][10];
        for (int i = 0; i < 10; i++) {
            for (int j = 0; j < 10; j++) {
                d[i][j] = i == j ? 0 : near[i][j] ? 1 : FAR;
            }
        }
        for (int k = 0; k < 10; k++) {
            for (int i = 0; i < 10; i++) {
                for (int j = 0; j < 10; j++) {
                    d[i][j] = Math.min(d[i][j], d[i][k] + d[k][j]);
                }
            }
        }
        return d;
    }

    static int towards(boolean[][] near, int[][] d, int from, int to) {
        if (d[from][to] >= FAR) {
            return -1;
        }
        for (int w = 0; w < 10; w++) {
            if (near[from][w] && d[w][to] < d[from][to]) {
                return w;
            }
        }
        return -1;
    }

    /** The PLACES that he changed; the proof is changed. */
    static List<Integer> reads(P p, boolean[][] near, int[] proof, int r, boolean[] leave) {
        return reads(p, near, distances(near), proof, r, leave);
    }

    static List<Integer> reads(P p, boolean[][] near, int[][] d, int[] proof, int r, boolean[] leave) {
        List<Integer> changed = new ArrayList<>();
        for (int i = 0; i < proof.length; i++) {
            int want = p.want[r][i];
            if (want == NO || want == proof[i] || leave != null && leave[i] || changed.size() >= p.patience[r]) {
                continue;
            }
            int t = towards(near, d, proof[i], want);
            if (t >= 0) {
                proof[i] = t;
                changed.add(i);
            }
        }
        return changed;
    }

    static final class Stand {
        final P p;
        int[] proof;
        boolean[][] near = new boolean[10][];
        boolean[][] leave = new boolean[8][8];
        int changes = 0;
        int prints = 0;
        int[] printed = null;
        int[] by = new int[8];
        int first = -1;
        int sets = 0;
        Set<Integer> touched = new HashSet<>();
        Set<String> editions = new HashSet<>();

        Stand(P p) {
            this.p = p;
            proof = p.proof.clone();
            for (int i = 0; i < 10; i++) {
                near[i] = p.near[i].clone();
            }
        }

        boolean can(Deed d) {
            switch (d.kind) {
                case 0: return p.reader(d.a);
                case 1: return p.place(d.a) && proof[d.a] != d.b;
                case 2: return p.reader(d.a) && p.place(d.b) && !leave[d.a][d.b];
                case 3: return !near[d.a][d.b];
                case 4: return near[d.a][d.b];
                default: return true;
            }
        }

        void act(Deed d, int index) {
            int[] before = proof.clone();
            switch (d.kind) {
                case 0:
                    int n = reads(p, near, proof, d.a, leave[d.a]).size();
                    changes += n;
                    by[d.a] += n;
                    if (n > 0 && first < 0) {
                        first = index;
                    }
                    break;
                case 1:
                    proof[d.a] = d.b;
                    sets++;
                    break;
                case 2:
                    leave[d.a][d.b] = true;
                    break;
                case 3:
                case 4:
                    near[d.a][d.b] = d.kind == 3;
                    near[d.b][d.a] = d.kind == 3;
                    break;
                default:
                    prints++;
                    printed = proof.clone();
                    editions.add(Arrays.toString(proof));
            }
            for (int i = 0; i < proof.length; i++) {
                if (proof[i] != before[i]) {
                    touched.add(i);
                }
            }
        }

        int run(List<Deed> week, boolean skip) {
            for (int i = 0; i < week.size(); i++) {
                if (can(week.get(i))) {
                    act(week.get(i), i);
                } else if (!skip) {
                    return i;
                }
            }
            return week.size();
        }

        int tell(int what) {
            if (what == 0) {
                return changes;
            }
            if (what == 1) {
                return prints;
            }
            if (what >= 10 && p.place(what - 10)) {
                return proof[what - 10];
            }
            if (what >= 20 && p.place(what - 20)) {
                return printed == null ? 10 : printed[what - 20];
            }
            if (what >= 30 && p.reader(what - 30)) {
                return content(p, what - 30, proof);
            }
            if (what >= 40 && p.reader(what - 40)) {
                return bits(leave[what - 40]);
            }
            return what >= 50 && what < 60 ? bits(near[what - 50]) : -2;
        }
    }

    static int bits(boolean[] b) {
        int n = 0;
        for (int i = 0; i < b.length; i++) {
            n += b[i] ? 1 << i : 0;
        }
        return n;
    }

    static int bits(Iterable<Integer> set) {
        int n = 0;
        for (int i : set) {
            n |= 1 << i;
        }
        return n;
    }

    static int state(P p, List<Deed> week, int n, int what) {
        if (n < 0 || n > new Stand(p).run(week, false)) {
            return -2;
        }
        Stand s = new Stand(p);
        s.run(week.subList(0, n), false);
        return s.tell(what);
    }

    static int after(P p, List<Deed> week, int what) {
        Stand s = new Stand(p);
        s.run(week, false);
        switch (what) {
            case 0: return s.first;
            case 1:
                int best = -1;
                for (int r = p.readers() - 1; r >= 0; r--) {
                    if (s.by[r] > 0 && (best < 0 || s.by[r] >= s.by[best])) {
                        best = r;
                    }
                }
                return best;
            case 2: return s.sets;
            case 3: return bits(s.touched);
            case 4: return s.editions.size();
            default: return -2;
        }
    }

    static int drawn(P p, int seed, int n, int what) {
        if (n < 0 || n > 60) {
            return -2;
        }
        int[] x = {seed};
        Stand s = new Stand(p);
        for (int i = 0; i < n; i++) {
            Deed d = draw(p, x);
            if (d != null && s.can(d)) {
                s.act(d, i);
            }
        }
        return s.tell(what);
    }

    static int below(int[] x, int n) {
        long next = (Integer.toUnsignedLong(x[0]) * 1103515245L + 12345L) & 0xffffffffL;
        x[0] = (int) next;
        return (int) ((next / 65536) % n);
    }

    static Deed draw(P p, int[] x) {
        int lot = below(x, 10);
        if (lot <= 3) {
            return p.readers() == 0 ? null : new Deed(0, below(x, p.readers()), -1);
        }
        if (lot == 4 || lot == 5) {
            if (p.places() == 0) {
                return null;
            }
            int place = below(x, p.places());
            return new Deed(1, place, below(x, 10));
        }
        if (lot == 6) {
            if (p.places() == 0 || p.readers() == 0) {
                return null;
            }
            int reader = below(x, p.readers());
            return new Deed(2, reader, below(x, p.places()));
        }
        if (lot == 9) {
            return new Deed(5, -1, -1);
        }
        int one = below(x, 10);
        int two = (one + below(x, 9) + 1) % 10;
        return new Deed(lot == 7 ? 3 : 4, one, two);
    }

    // ---- terms 3 ----

    static int content(P p, int r, int[] proof) {
        int n = 0;
        for (int i = 0; i < proof.length; i++) {
            n += p.want[r][i] == proof[i] ? 1 : 0;
        }
        return n;
    }

    static int contentOfAll(P p, int[] proof) {
        int n = 0;
        for (int r = 0; r < p.readers(); r++) {
            n += content(p, r, proof);
        }
        return n;
    }

    static int[] after(P p, boolean[][] near, List<Integer> row) {
        int[] proof = p.proof.clone();
        int[][] d = distances(near);
        for (int r : row) {
            reads(p, near, d, proof, r, null);
        }
        return proof;
    }

    static int[] after(P p, List<Integer> row) {
        return after(p, p.near, row);
    }

    static List<Integer> upTo(int n) {
        List<Integer> row = new ArrayList<>();
        for (int i = 0; i < n; i++) {
            row.add(i);
        }
        return row;
    }

    static List<List<Integer>> permutations(int n) {
        List<List<Integer>> all = new ArrayList<>();
        permute(n, new ArrayList<>(), all);
        return all;
    }

    private static void permute(int n, List<Integer> head, List<List<Integer>> all) {
        if (head.size() == n) {
            all.add(new ArrayList<>(head));
            return;
        }
        for (int i = 0; i < n; i++) {
            if (!head.contains(i)) {
                head.add(i);
                permute(n, head, all);
                head.remove(head.size() - 1);
            }
        }
    }

    /** SETTLED, RING, and the LAST proof behind. */
    static int[] rounds(P p) {
        List<int[]> behind = new ArrayList<>();
        behind.add(p.proof.clone());
        int settled = -1;
        int ring = -1;
        for (int k = 1; k <= 60 && settled < 0 && ring < 0; k++) {
            int[] now = behind.get(k - 1).clone();
            int changes = 0;
            for (int r = 0; r < p.readers(); r++) {
                changes += reads(p, p.near, now, r, null).size();
            }
            if (changes == 0) {
                settled = k - 1;
            } else {
                for (int j = 0; j < k; j++) {
                    if (Arrays.equals(behind.get(j), now)) {
                        ring = k - j;
                    }
                }
            }
            behind.add(now);
        }
        int[] last = settled >= 0 ? behind.get(settled) : behind.get(behind.size() - 1);
        int[] all = new int[2 + last.length];
        all[0] = settled;
        all[1] = ring;
        System.arraycopy(last, 0, all, 2, last.length);
        return all;
    }

    static int order(P p, int k) {
        int most = -1;
        List<Integer> best = null;
        for (List<Integer> row : permutations(p.readers())) {
            int much = contentOfAll(p, after(p, row));
            if (much > most) {
                most = much;
                best = row;
            }
        }
        return k == -1 ? most : p.reader(k) ? best.get(k) : -1;
    }

    static int desks(P p, int n, int k) {
        if (n < 1 || n > 3 || k != -1 && !p.reader(k)) {
            return -1;
        }
        // All rows of desks by numbers, the first READER's desk ahead.
        List<List<Integer>> rows = new ArrayList<>();
        rows.add(new ArrayList<>());
        for (int r = 0; r < p.readers(); r++) {
            List<List<Integer>> longer = new ArrayList<>();
            for (List<Integer> row : rows) {
                for (int d = 0; d < n; d++) {
                    List<Integer> more = new ArrayList<>(row);
                    more.add(d);
                    longer.add(more);
                }
            }
            rows = longer;
        }
        int least = 10000;
        List<Integer> best = null;
        for (List<Integer> row : rows) {
            int[] days = new int[n];
            for (int r = 0; r < row.size(); r++) {
                days[row.get(r)] += p.days[r];
            }
            int longest = Arrays.stream(days).max().getAsInt();
            if (longest < least) {
                least = longest;
                best = row;
            }
        }
        return k == -1 ? least : best.get(k);
    }

    /** The score of the first in the end; choice[0] is what he changes first. */
    private static int play(P p, int[][] d, int a, int b, int turn, int n, int[] proof, int[] choice) {
        if (turn == n) {
            return content(p, a, proof) - content(p, b, proof);
        }
        boolean firsts = turn % 2 == 0;
        int who = firsts ? a : b;
        int best = firsts ? -FAR : FAR;
        for (int place = 0; place <= 8; place++) {
            if (place < 8 && place >= proof.length) {
                continue;
            }
            int[] then = proof.clone();
            if (place < 8) {
                int want = p.want[who][place];
                int t = want == NO ? -1 : towards(p.near, d, proof[place], want);
                if (t < 0) {
                    continue;
                }
                then[place] = t;
            }
            int much = play(p, d, a, b, turn + 1, n, then, null);
            if (firsts ? much > best : much < best) {
                best = much;
                if (choice != null) {
                    choice[0] = place;
                }
            }
        }
        return best;
    }

    static int quarrel(P p, int a, int b, int n, boolean first) {
        if (!p.reader(a) || !p.reader(b) || a == b || n < 0 || n > 4) {
            return -99;
        }
        int[] choice = {-1};
        int much = play(p, distances(p.near), a, b, 0, n, p.proof.clone(), choice);
        return first ? choice[0] : much;
    }

    static int signs(P p, boolean which) {
        int best = -1;
        for (int many = 0; many <= p.places() && best < 0; many++) {
            for (int set = 0; set < 1 << p.places() && best < 0; set++) {
                if (Integer.bitCount(set) == many) {
                    Set<String> looks = new HashSet<>();
                    for (int r = 0; r < p.readers(); r++) {
                        StringBuilder look = new StringBuilder();
                        for (int i = 0; i < p.places(); i++) {
                            look.append((set >> i & 1) == 1 ? "," + p.want[r][i] : "");
                        }
                        looks.add(look.toString());
                    }
                    best = looks.size() == p.readers() ? set : -1;
                }
            }
        }
        return best < 0 ? -1 : which ? best : Integer.bitCount(best);
    }

    static int vote(P p, int place) {
        if (!p.place(place)) {
            return -1;
        }
        TreeMap<Integer, Integer> votes = new TreeMap<>();
        for (int r = 0; r < p.readers(); r++) {
            if (p.want[r][place] != NO) {
                votes.merge(p.want[r][place], 1, Integer::sum);
            }
        }
        int most = votes.values().stream().max(Integer::compare).orElse(0);
        for (int w : votes.keySet()) {
            if (votes.get(w) == most) {
                return w;
            }
        }
        return -1;
    }

    static long come(P p, int q, int n, boolean under) {
        if (q < 0 || q > 10 || n < 0 || n > 3) {
            return -1;
        }
        BigInteger[] one = {BigInteger.ZERO, BigInteger.ONE};
        // Not come yet: either he comes this week, or he goes on.
        for (int i = 0; i < n; i++) {
            BigInteger ten = BigInteger.TEN.multiply(one[1]);
            BigInteger stays = one[1].subtract(one[0]);
            one[0] = one[0].multiply(BigInteger.TEN).add(stays.multiply(BigInteger.valueOf(q)));
            one[1] = ten;
        }
        BigInteger over = one[0].pow(p.readers());
        BigInteger below = one[1].pow(p.readers());
        BigInteger g = over.gcd(below);
        return (under ? below : over).divide(g).longValueExact();
    }

    // ---- terms 4 ----

    static List<List<Integer>> fitting(P p, List<Fact> log) {
        List<List<Integer>> all = new ArrayList<>();
        for (List<Integer> row : permutations(p.readers())) {
            int[] proof = after(p, row);
            boolean ok = true;
            for (Fact f : log) {
                ok = ok && p.place(f.place) && proof[f.place] == f.word;
            }
            if (ok) {
                all.add(row);
            }
        }
        return all;
    }

    static int fits(P p, List<List<Integer>> all, int what) {
        if (what == 0) {
            return all.size();
        }
        if (what == 1) {
            int best = -1;
            int least = 10000;
            for (int i = 0; i < p.places() && !all.isEmpty(); i++) {
                int[] counts = new int[10];
                for (List<Integer> row : all) {
                    counts[after(p, row)[i]]++;
                }
                int most = Arrays.stream(counts).max().getAsInt();
                if (most < least) {
                    least = most;
                    best = i;
                }
            }
            return best;
        }
        if (what >= 2 && what <= 7) {
            Set<Integer> there = new HashSet<>();
            for (List<Integer> row : all) {
                there.add(what - 2 < row.size() ? row.get(what - 2) : -1);
            }
            return there.size() == 1 ? there.iterator().next() : -1;
        }
        if (what >= 10 && what - 10 < all.size()) {
            StringBuilder s = new StringBuilder("1");
            for (int r : all.get(what - 10)) {
                s.append(r);
            }
            return Integer.parseInt(s.toString());
        }
        return -2;
    }

    static int ahead(P p, List<List<Integer>> all, int a, int b, boolean under) {
        if (a == b || !p.reader(a) || !p.reader(b) || all.isEmpty()) {
            return -1;
        }
        int n = 0;
        for (List<Integer> row : all) {
            n += row.indexOf(a) < row.indexOf(b) ? 1 : 0;
        }
        int g = BigInteger.valueOf(n).gcd(BigInteger.valueOf(all.size())).intValue();
        return (under ? all.size() : n) / g;
    }

    static int firsts(P p, List<List<Integer>> all, int what) {
        Set<Integer> first = new HashSet<>();
        Set<Integer> last = new HashSet<>();
        int best = -1;
        int worst = -1;
        for (List<Integer> row : all) {
            if (!row.isEmpty()) {
                first.add(row.get(0));
                last.add(row.get(row.size() - 1));
            }
            int much = contentOfAll(p, after(p, row));
            best = best < 0 || much > best ? much : best;
            worst = worst < 0 || much < worst ? much : worst;
        }
        switch (what) {
            case 0: return bits(first);
            case 1: return bits(last);
            case 2: return best;
            case 3: return worst;
            default: return -2;
        }
    }

    // ---- terms 5 ----

    private static int groups(boolean[][] near) {
        int[][] d = distances(near);
        Set<String> kin = new HashSet<>();
        for (int a = 0; a < 10; a++) {
            StringBuilder s = new StringBuilder();
            for (int b = 0; b < 10; b++) {
                s.append(d[a][b] < FAR ? b + "," : "");
            }
            kin.add(s.toString());
        }
        return kin.size();
    }

    /** The fewest WORDS of a ring that begins at the head of the path and whose other WORDS are not on it yet. */
    private static int ring(boolean[][] near, List<Integer> path, int best) {
        int end = path.get(path.size() - 1);
        if (path.size() >= 3 && near[end][path.get(0)]) {
            return Math.min(best, path.size());
        }
        int least = best;
        for (int w = 0; w < 10 && path.size() + 1 < least; w++) {
            if (near[end][w] && !path.contains(w)) {
                path.add(w);
                least = ring(near, path, least);
                path.remove(path.size() - 1);
            }
        }
        return least;
    }

    static int kin(P p, int what) {
        int[][] d = distances(p.near);
        int much = 0;
        switch (what) {
            case 0: return groups(p.near);
            case 1:
                for (int a = 0; a < 10; a++) {
                    much = Math.max(much, (int) Arrays.stream(d[a]).filter(x -> x < FAR).count());
                }
                return much;
            case 2:
                for (int[] row : d) {
                    much = Math.max(much, Arrays.stream(row).filter(x -> x < FAR).max().getAsInt());
                }
                return much;
            case 3:
                for (int a = 0; a < 10; a++) {
                    much |= bits(p.near[a]) == 0 ? 1 << a : 0;
                }
                return much;
            case 4:
                for (int a = 0; a < 10; a++) {
                    for (int b = a + 1; b < 10; b++) {
                        if (p.near[a][b]) {
                            p.near[a][b] = p.near[b][a] = false;
                            much += distances(p.near)[a][b] >= FAR ? 1 : 0;
                            p.near[a][b] = p.near[b][a] = true;
                        }
                    }
                }
                return much;
            case 5:
                int least = FAR;
                for (int a = 0; a < 10; a++) {
                    least = ring(p.near, new ArrayList<>(List.of(a)), least);
                }
                return least == FAR ? -1 : least;
            default: return -2;
        }
    }

    static boolean rivals(P p, int a, int b) {
        for (int i = 0; i < p.places(); i++) {
            if (p.want[a][i] != NO && p.want[b][i] != NO && p.want[a][i] != p.want[b][i]) {
                return true;
            }
        }
        return false;
    }

    static int distance(P p, int r, int what) {
        if (!p.reader(r)) {
            return -2;
        }
        int much = 0;
        switch (what) {
            case 0:
                int[][] d = distances(p.near);
                for (int i = 0; i < p.places(); i++) {
                    if (p.want[r][i] != NO && d[p.proof[i]][p.want[r][i]] < FAR) {
                        much += d[p.proof[i]][p.want[r][i]];
                    }
                }
                return much;
            case 1:
                int[] proof = p.proof.clone();
                while (!reads(p, p.near, proof, r, null).isEmpty()) {
                    much++;
                }
                return much;
            case 2:
                for (int o = 0; o < p.readers(); o++) {
                    much |= rivals(p, r, o) ? 1 << o : 0;
                }
                return much;
            default: return -2;
        }
    }

    static int peace(P p, boolean which) {
        int best = -1;
        for (int set = 0; set < 1 << p.readers(); set++) {
            boolean ok = true;
            for (int a = 0; a < p.readers(); a++) {
                for (int b = 0; b < p.readers(); b++) {
                    ok = ok && !((set >> a & 1) == 1 && (set >> b & 1) == 1 && rivals(p, a, b));
                }
            }
            if (ok && (best < 0 || Integer.bitCount(set) > Integer.bitCount(best))) {
                best = set;
            }
        }
        return which ? best : Integer.bitCount(best);
    }

    static int median(P p, int place, boolean much) {
        if (!p.place(place)) {
            return -1;
        }
        int[][] d = distances(p.near);
        int[] sums = new int[10];
        for (int w = 0; w < 10; w++) {
            for (int r = 0; r < p.readers(); r++) {
                int want = p.want[r][place];
                sums[w] += want == NO ? 0 : Math.min(10, d[w][want]);
            }
        }
        int least = Arrays.stream(sums).min().getAsInt();
        for (int w = 0; w < 10; w++) {
            if (sums[w] == least) {
                return much ? least : w;
            }
        }
        return -99;
    }

    static int rise(P p, int what) {
        int n = p.places();
        List<Integer> best = new ArrayList<>();
        for (int set = 0; set < 1 << n; set++) {
            List<Integer> row = new ArrayList<>();
            boolean ok = true;
            for (int i = 0; i < n; i++) {
                if ((set >> i & 1) == 1) {
                    ok = ok && (row.isEmpty() || p.proof[row.get(row.size() - 1)] < p.proof[i]);
                    row.add(i);
                }
            }
            if (ok && (row.size() > best.size()
                    || row.size() == best.size() && row.toString().compareTo(best.toString()) < 0)) {
                best = row;
            }
        }
        switch (what) {
            case 0: return best.size();
            case 1:
                int bend = 0;
                for (int i = 0; i < n / 2; i++) {
                    bend += p.proof[i] != p.proof[n - 1 - i] ? 1 : 0;
                }
                return bend;
            case 2:
                int twice = 0;
                for (int len = 1; len < n; len++) {
                    Set<String> seen = new HashSet<>();
                    for (int i = 0; i + len <= n; i++) {
                        if (!seen.add(Arrays.toString(Arrays.copyOfRange(p.proof, i, i + len)))) {
                            twice = len;
                        }
                    }
                }
                return twice;
            case 3: return (int) Arrays.stream(p.proof).distinct().count();
            case 4:
                int common = -1;
                long most = 0;
                for (int w = 0; w < 10; w++) {
                    int word = w;
                    long many = Arrays.stream(p.proof).filter(x -> x == word).count();
                    if (many > most) {
                        most = many;
                        common = w;
                    }
                }
                return common;
            default: return what >= 10 && what - 10 < best.size() ? best.get(what - 10) : -2;
        }
    }

    static int lastWord(P p, int what) {
        int best = -1;
        int most = -1;
        List<Integer> row = upTo(p.readers());
        switch (what) {
            case 0:
                int idle = 0;
                for (int r : row) {
                    idle |= reads(p, p.near, p.proof.clone(), r, null).isEmpty() ? 1 << r : 0;
                }
                return idle;
            case 1:
            case 2:
                for (int r : row) {
                    List<Integer> turned = upTo(p.readers());
                    turned.remove(Integer.valueOf(r));
                    turned.add(r);
                    int much = contentOfAll(p, after(p, turned));
                    best = much > most ? r : best;
                    most = Math.max(most, much);
                }
                break;
            case 3:
            case 4:
                for (int a : row) {
                    for (int b = a + 1; b < p.readers(); b++) {
                        List<Integer> turned = upTo(p.readers());
                        turned.set(a, b);
                        turned.set(b, a);
                        int much = contentOfAll(p, after(p, turned));
                        best = much > most ? 10 * a + b : best;
                        most = Math.max(most, much);
                    }
                }
                break;
            case 5:
            case 6:
                for (int a = 0; a < 10; a++) {
                    for (int b = a + 1; b < 10; b++) {
                        if (!p.near[a][b]) {
                            boolean[][] near = new boolean[10][];
                            for (int i = 0; i < 10; i++) {
                                near[i] = p.near[i].clone();
                            }
                            near[a][b] = near[b][a] = true;
                            int much = contentOfAll(p, after(p, near, row));
                            best = much > most ? 10 * a + b : best;
                            most = Math.max(most, much);
                        }
                    }
                }
                break;
            default:
                if (what < 10 || !p.place(what - 10)) {
                    return -2;
                }
                int[] proof = p.proof.clone();
                for (int r : row) {
                    best = reads(p, p.near, proof, r, null).contains(what - 10) ? r : best;
                }
                return best;
        }
        return what % 2 == 1 ? best : Math.max(most, 0);
    }

    static int paper(P p, int what) {
        if (what == 0 || what == 1) {
            return what == 0 ? p.places() : p.readers();
        }
        if (what >= 10 && p.place(what - 10)) {
            return p.proof[what - 10];
        }
        if (what >= 20 && what < 30) {
            return bits(p.near[what - 20]);
        }
        if (what >= 30 && p.reader(what - 30)) {
            return p.patience[what - 30];
        }
        if (what >= 40 && p.reader(what - 40)) {
            return p.days[what - 40];
        }
        if (what >= 100 && p.reader((what - 100) / 10) && p.place((what - 100) % 10)) {
            return p.want[(what - 100) / 10][(what - 100) % 10];
        }
        return -1;
    }
}
