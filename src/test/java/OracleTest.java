import java.util.List;
import java.util.Random;

/** Holds the program against the Oracle, by papers, weeks and logs by chance (of a fixed seed). */
final class OracleTest {
    private static final Due due = new Due();
    private static final int[] ODD = {-1, -2, -3, 8, 9, 10, 11, 1000, Integer.MAX_VALUE, Integer.MIN_VALUE};

    private static ProofLine object;
    private static String[] texts;
    private static int calls;

    public static void main(String[] args) {
        long seeds = args.length > 0 ? Long.parseLong(args[0]) : 400;
        long from = args.length > 1 ? Long.parseLong(args[1]) : 1;
        for (long seed = from; seed < from + seeds; seed++) {
            due.at("seed " + seed);
            one(new Random(seed));
        }
        due.finish();
    }

    private static void one(Random z) {
        Oracle.P p = Oracle.randomPaper(z);
        String text = Oracle.text(p, z);
        while (text.length() > 600) {
            p = Oracle.randomPaper(z);
            text = Oracle.text(p, z);
        }
        List<Oracle.Deed> week = Oracle.randomWeek(p, z);
        List<Oracle.Fact> log = Oracle.randomLog(p, z);
        texts = new String[] {text, Oracle.weekText(week), Oracle.logText(log)};
        tell();
        told(p, week, log);
        words(p);
        readers(p);
        weeks(p, week, z);
        logs(p, log);
        proofs(p);
    }

    /** A new object that is told the texts. */
    private static void tell() {
        object = new ProofLine();
        calls = 0;
        for (int sort = 0; sort < 3; sort++) {
            due.is("text of sort " + sort, Due.text(object, sort, -1, texts[sort]), 0);
            calls += texts[sort].length() / 20 + 3;
        }
    }

    /** The object to ask; another one, told the same, when 512 calls have been made of it. */
    private static ProofLine x() {
        if (calls >= 512) {
            tell();
        }
        calls++;
        return object;
    }

    private static void told(Oracle.P p, List<Oracle.Deed> week, List<Oracle.Fact> log) {
        for (int what = -3; what < 180; what++) {
            due.is("paper " + what, x().paper(0, what), Oracle.paper(p, what));
        }
        due.is("deeds", x().deed(0, -1, 0), week.size());
        for (int k = 0; k < week.size(); k++) {
            due.is("deed " + k, x().deed(0, k, 0), week.get(k).kind());
            due.is("deed " + k + " 1", x().deed(0, k, 1), week.get(k).a());
            due.is("deed " + k + " 2", x().deed(0, k, 2), week.get(k).b());
        }
        due.is("facts", x().fact(0, -1, 0), log.size());
        for (int k = 0; k < log.size(); k++) {
            due.is("fact " + k, x().fact(0, k, 0), log.get(k).place());
            due.is("fact " + k + " 1", x().fact(0, k, 1), log.get(k).word());
        }
    }

    private static void words(Oracle.P p) {
        int[][] d = Oracle.distances(p.near);
        for (int a = 0; a < 10; a++) {
            for (int b = 0; b < 10; b++) {
                due.is("steps " + a + " " + b, x().steps(0, a, b), d[a][b] >= Oracle.FAR ? -1 : d[a][b]);
                due.is("towards " + a + " " + b, x().towards(0, a, b), Oracle.towards(p.near, d, a, b));
            }
        }
        for (int what = -2; what < 8; what++) {
            due.is("kin " + what, x().kin(0, what), Oracle.kin(p, what));
        }
    }

    private static void readers(Oracle.P p) {
        for (int r = -1; r < 7; r++) {
            int[] proof = p.proof.clone();
            boolean there = p.reader(r);
            int changes = there ? Oracle.reads(p, p.near, proof, r, null).size() : -2;
            due.is("reading 0", x().reading(0, r, 0), changes);
            due.is("reading 1", x().reading(0, r, 1), there ? Oracle.contentOfAll(p, proof) : -2);
            for (int i = -1; i < 9; i++) {
                due.is("reading 10+" + i, x().reading(0, r, 10 + i), there && p.place(i) ? proof[i] : -2);
            }
            for (int what = -1; what < 4; what++) {
                due.is("distance " + r + " " + what, x().distance(0, r, what), Oracle.distance(p, r, what));
            }
        }
        int[] rounds = Oracle.rounds(p);
        due.is("rounds 0", x().rounds(0, 0), rounds[0]);
        due.is("rounds 1", x().rounds(0, 1), rounds[1]);
        for (int i = 0; i < 9; i++) {
            due.is("rounds 10+" + i, x().rounds(0, 10 + i), p.place(i) ? rounds[2 + i] : -2);
        }
        for (int k = -2; k < 7; k++) {
            due.is("order " + k, x().order(0, k), k < -1 ? -1 : Oracle.order(p, k));
            for (int n = 0; n < 5; n++) {
                due.is("desks " + n + " " + k, x().desks(0, n, k), Oracle.desks(p, n, k));
            }
        }
        for (int i = -1; i < 9; i++) {
            due.is("vote " + i, x().vote(0, i), Oracle.vote(p, i));
            due.is("median " + i, x().median(0, i, false), Oracle.median(p, i, false));
            due.is("median much " + i, x().median(0, i, true), Oracle.median(p, i, true));
        }
        for (int n = -1; n < 5; n++) {
            for (int q = -1; q < 12; q++) {
                due.is("come " + q + " " + n, x().come(0, q, n, false), Oracle.come(p, q, n, false));
                due.is("come under " + q + " " + n, x().come(0, q, n, true), Oracle.come(p, q, n, true));
            }
        }
        boolean[] both = {false, true};
        for (boolean which : both) {
            due.is("signs " + which, x().signs(0, which), Oracle.signs(p, which));
            due.is("peace " + which, x().peace(0, which), Oracle.peace(p, which));
            for (int a = -1; a <= Math.min(2, p.readers()); a++) {
                for (int b = -1; b <= Math.min(3, p.readers()); b++) {
                    for (int n = -1; n <= (p.places() > 4 ? 3 : 5); n++) {
                        due.is("quarrel " + a + " " + b + " " + n + " " + which,
                            x().quarrel(0, a, b, n, which), Oracle.quarrel(p, a, b, n, which));
                    }
                }
            }
        }
        for (int what = -1; what < 20; what++) {
            due.is("lastWord " + what, x().lastWord(0, what), Oracle.lastWord(p, what));
        }
    }

    private static void weeks(Oracle.P p, List<Oracle.Deed> week, Random z) {
        int stop = new Oracle.Stand(p).run(week, false);
        due.is("stop", x().stop(0, 0), stop);
        for (int n = -1; n <= 41; n++) {
            for (int what = -1; what <= 61; what++) {
                if (n < 2 || n >= stop - 1 || z.nextInt(5) == 0) {
                    due.is("state " + n + " " + what, x().state(0, 0, n, what), Oracle.state(p, week, n, what));
                }
            }
        }
        for (int what = -1; what < 6; what++) {
            due.is("after " + what, x().after(0, 0, what), Oracle.after(p, week, what));
        }
        for (int i = 0; i < 6; i++) {
            int seed = z.nextInt();
            int n = i == 0 ? 60 : i == 1 ? 61 : i == 2 ? -1 : z.nextInt(61);
            for (int what = -1; what < 61; what++) {
                due.is("drawn " + seed + " " + n + " " + what,
                    x().drawn(0, seed, n, what), Oracle.drawn(p, seed, n, what));
            }
        }
    }

    private static void logs(Oracle.P p, List<Oracle.Fact> log) {
        List<List<Integer>> all = Oracle.fitting(p, log);
        for (int what = -1; what < 40; what++) {
            due.is("fits " + what, x().fits(0, 0, what), Oracle.fits(p, all, what));
        }
        for (int k = all.size() - 2; k <= all.size() + 1; k++) {
            if (k >= 0) {
                due.is("fits 10+" + k, x().fits(0, 0, 10 + k), Oracle.fits(p, all, 10 + k));
            }
        }
        for (int a = -1; a < 7; a++) {
            for (int b = -1; b < 7; b++) {
                due.is("ahead " + a + " " + b, x().ahead(0, 0, a, b, false), Oracle.ahead(p, all, a, b, false));
                due.is("ahead under " + a + " " + b, x().ahead(0, 0, a, b, true), Oracle.ahead(p, all, a, b, true));
            }
        }
        for (int what = -1; what < 5; what++) {
            due.is("firsts " + what, x().firsts(0, 0, what), Oracle.firsts(p, all, what));
        }
    }

    private static void proofs(Oracle.P p) {
        for (int what = -2; what < 20; what++) {
            due.is("rise " + what, x().rise(0, what), Oracle.rise(p, what));
        }
        for (int odd : ODD) {
            due.is("rise odd " + odd, x().rise(0, odd), Oracle.rise(p, odd));
            due.is("paper odd " + odd, x().paper(0, odd), Oracle.paper(p, odd));
            due.is("vote odd " + odd, x().vote(0, odd), Oracle.vote(p, odd));
            due.is("lastWord odd " + odd, x().lastWord(0, odd), Oracle.lastWord(p, odd));
        }
    }
}
