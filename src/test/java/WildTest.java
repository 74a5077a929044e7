import java.util.Random;

/**
 * Calls by chance (of a fixed seed), with any numbers: none may throw, the same calls give the same answers, and
 * behind texts, images and agains an object answers as a new one does that was told the same.
 */
final class WildTest {
    private static final Due due = new Due();
    private static final int ASKS = 6;

    public static void main(String[] args) {
        for (int seed = 1; seed <= 2500; seed++) {
            due.at("seed " + seed);
            Random z = new Random(seed);
            Told t = new Told();
            // A step makes fewer than fifty calls, and an object is used for 512.
            while (t.calls < 460) {
                t.step(z);
                t.compare(z);
            }
        }
        due.finish();
    }

    private static int number(Random z) {
        switch (z.nextInt(12)) {
            case 0: return z.nextInt();
            case 1: return Integer.MIN_VALUE + z.nextInt(3);
            case 2: return Integer.MAX_VALUE - z.nextInt(3);
            case 3: return -z.nextInt(12);
            case 4: return z.nextInt(200);
            case 5: return 10 + z.nextInt(12);
            case 6: return z.nextInt(60);
            default: return z.nextInt(4);
        }
    }

    private static int at(Random z) {
        return z.nextInt(6) == 0 ? number(z) : z.nextInt(2);
    }

    /** One call of any method that changes nothing. */
    private static long ask(ProofLine x, Random z) {
        int a = at(z);
        int b = number(z);
        int c = number(z);
        int d = number(z);
        boolean e = z.nextBoolean();
        switch (z.nextInt(28)) {
            case 0: return x.fault(b);
            case 1: return x.paper(a, b);
            case 2: return x.deed(a, b, c);
            case 3: return x.stop(a, at(z));
            case 4: return x.state(a, at(z), b, c);
            case 5: return x.steps(a, b, c);
            case 6: return x.towards(a, b, c);
            case 7: return x.reading(a, b, c);
            case 8: return x.rounds(a, b);
            case 9: return x.order(a, b);
            case 10: return x.desks(a, b, c);
            case 11: return x.quarrel(a, b, c, d, e);
            case 12: return x.signs(a, e);
            case 13: return x.vote(a, b);
            case 14: return x.come(a, b, c, e);
            case 15: return x.fact(a, b, c);
            case 16: return x.fits(a, at(z), b);
            case 17: return x.ahead(a, at(z), b, c, e);
            case 18: return x.drawn(a, b, c, d);
            case 19: return x.kin(a, b);
            case 20: return x.distance(a, b, c);
            case 21: return x.peace(a, e);
            case 22: return x.median(a, b, e);
            case 23: return x.rise(a, b);
            case 24: return x.lastWord(a, b);
            case 25: return x.after(a, at(z), b);
            case 26: return x.firsts(a, at(z), b);
            default: return x.count(b);
        }
    }

    private static String text(int sort, Random z) {
        Oracle.P p = Oracle.randomPaper(z);
        String text = sort == 0 ? Oracle.text(p, z)
            : sort == 1 ? Oracle.weekText(Oracle.randomWeek(p, z)) : Oracle.logText(Oracle.randomLog(p, z));
        text = text.length() > 580 ? "" : text;
        return z.nextInt(5) == 0 ? text + "odd" : text;
    }

    /** An object, and beside it what it was told, as texts. */
    private static final class Told {
        private final ProofLine x = new ProofLine();
        private int calls;
        private String[][] texts = new String[3][2];
        private String latest = "";
        private int sortOfLatest = 3;
        private final String[][][] kept = new String[3][][];
        private final String[] keptLatest = new String[3];
        private final int[] keptSort = new int[3];

        private int count(int sort) {
            return texts[sort][0] == null ? 0 : texts[sort][1] == null ? 1 : 2;
        }

        private String[][] copy(String[][] of) {
            return new String[][] {of[0].clone(), of[1].clone(), of[2].clone()};
        }

        void step(Random z) {
            int k = z.nextInt(4);
            int lot = z.nextInt(10);
            calls++;
            if (lot == 0) {
                due.is("image " + k, x.image(k), k < 3);
                if (k < 3) {
                    kept[k] = copy(texts);
                    keptLatest[k] = latest;
                    keptSort[k] = sortOfLatest;
                }
            } else if (lot == 1) {
                boolean may = k < 3 && kept[k] != null;
                due.is("again " + k, x.again(k), may);
                if (may) {
                    texts = copy(kept[k]);
                    latest = keptLatest[k];
                    sortOfLatest = keptSort[k];
                }
            } else if (lot < 6) {
                tell(z);
            }
        }

        private void tell(Random z) {
            int sort = z.nextInt(3);
            int at = z.nextInt(4) - 1;
            String text = text(sort, z);
            int got = Due.text(x, sort, at, text);
            calls += text.length() / 20 + 3;
            boolean may = at == -1 ? count(sort) < 2 : at < count(sort);
            int number = !may ? -2 : text.endsWith("odd") ? -1 : at == -1 ? count(sort) : at;
            due.is("text", got, number);
            latest = may ? text : "";
            sortOfLatest = may ? sort : 3;
            if (number >= 0) {
                texts[sort][number] = text;
            }
        }

        void compare(Random z) {
            ProofLine y = new ProofLine();
            for (int sort = 0; sort < 3; sort++) {
                for (int i = 0; i < count(sort); i++) {
                    Due.text(y, sort, -1, texts[sort][i]);
                }
            }
            // So that the fault is the latest text's.
            Due.tape(y, latest);
            if (latest.endsWith("odd")) {
                y.text(sortOfLatest, count(sortOfLatest) > 0 ? 0 : -1);
            } else {
                y.text(3, -1);
            }
            calls += 2 * ASKS;
            for (int i = 0; i < ASKS; i++) {
                long seed = z.nextLong();
                long one = ask(x, new Random(seed));
                due.is("ask " + seed, one, ask(y, new Random(seed)));
                due.is("ask once more " + seed, one, ask(x, new Random(seed)));
            }
        }
    }
}
