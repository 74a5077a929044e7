/** Proofs, read by those it happened to: see README.md for how it is used. */
public final class ProofLine {
    public static final int NONE = -1;

    private static final int ABSENT = -2;
    private static final int WORDS = 10;
    /** Stands for a WORD where nothing is wanted, or nothing was printed. */
    private static final int NOTHING = 10;
    private static final int MOST_PLACES = 8;
    private static final int MOST_READERS = 6;
    private static final int MOST_DEEDS = 40;
    private static final int MOST_FACTS = 8;
    private static final int MOST_BYTES = 600;
    private static final int MOST_DRAWN = 60;
    private static final int MOST_ROUNDS = 60;
    /** As many as six READERS have at one desk. */
    private static final int MOST_DAYS = 54;
    /** As many orders as six READERS have. */
    private static final int MOST_ROWS = 720;
    /** How many there may be of each sort. */
    private static final int MOST = 2;
    private static final int IMAGES = 3;
    private static final int MOST_TURNS = 4;
    private static final int QUARREL_ABSENT = -99;

    private static final int SORTS = 3;
    private static final int PAPERS = 0;
    private static final int WEEKS = 1;
    private static final int LOGS = 2;

    // The lines of all texts; those of a WEEK bear the numbers by which deed() tells them.
    private static final int READ = 0;
    private static final int SET = 1;
    private static final int STET = 2;
    private static final int JOIN = 3;
    private static final int PART = 4;
    private static final int PRINT = 5;
    private static final int WORD = 6;
    private static final int NEAR = 7;
    private static final int READER = 8;
    private static final int WANTS = 9;
    private static final int WAS = 10;

    /** How many NUMBERS each line has. */
    private static final int[] NUMBERS_OF = {1, 2, 2, 2, 2, 0, 1, 2, 2, 3, 2};
    /** The greatest that each NUMBER of each line may be, three to a line. */
    private static final int[] GREATEST = {
        5, 0, 0, 7, 9, 0, 5, 7, 0, 9, 9, 0, 9, 9, 0, 0, 0, 0,
        9, 0, 0, 9, 9, 0, 9, 9, 0, 5, 7, 9, 7, 9, 0};
    private static final int[] TENS = {1, 10, 100, 1000, 10000, 100000, 1000000};

    private final Told told = new Told();
    private final Told[] images = new Told[IMAGES];
    private final boolean[] kept = new boolean[IMAGES];
    private final Scan scan = new Scan();
    private final Stand stand = new Stand();
    private final Lots lots = new Lots();
    private final Rounds laps = new Rounds();
    private final Rows rows = new Rows();
    private final Net draft = new Net();
    private final int[] row = new int[WORDS];
    private final int[] pairs = new int[MOST_READERS * MOST_READERS];

    public ProofLine() {
        for (int k = 0; k < IMAGES; k++) {
            images[k] = new Told();
        }
    }

    // ---- what is told ----

    public int feed(int a, int b, int c, int d, int e) {
        if (told.bytes + 20 > MOST_BYTES) {
            return NONE;
        }
        told.append(a);
        told.append(b);
        told.append(c);
        told.append(d);
        told.append(e);
        return told.bytes;
    }

    public int end(int n) {
        if (n < 0 || n > told.bytes) {
            return NONE;
        }
        told.bytes = n;
        return n;
    }

    public int text(int sort, int at) {
        int bytes = told.bytes;
        told.bytes = 0;
        told.fault = 0;
        told.place = NONE;
        if (sort < 0 || sort >= SORTS) {
            return ABSENT;
        }
        boolean further = at == NONE;
        if (further ? told.many[sort] >= MOST : at < 0 || at >= told.many[sort]) {
            return ABSENT;
        }
        scan.take(told.tape, bytes, sort);
        told.fault = scan.wrong;
        told.place = scan.place;
        if (scan.wrong != 0) {
            return NONE;
        }
        int number = further ? told.many[sort] : at;
        told.take(scan, sort, number);
        rows.forget();
        return number;
    }

    public int fault(int what) {
        if (what == 0) {
            return told.fault;
        }
        return what == 1 ? told.place : NONE;
    }

    public int count(int sort) {
        return sort < 0 || sort >= SORTS ? ABSENT : told.many[sort];
    }

    public boolean image(int k) {
        if (k < 0 || k >= IMAGES) {
            return false;
        }
        images[k].copy(told);
        kept[k] = true;
        return true;
    }

    public boolean again(int k) {
        if (k < 0 || k >= IMAGES || !kept[k]) {
            return false;
        }
        told.copy(images[k]);
        rows.forget();
        return true;
    }

    private Paper paperAt(int paper) {
        return paper < 0 || paper >= told.many[PAPERS] ? null : told.papers[paper];
    }

    private Week weekAt(int week) {
        return week < 0 || week >= told.many[WEEKS] ? null : told.weeks[week];
    }

    private Log logAt(int log) {
        return log < 0 || log >= told.many[LOGS] ? null : told.logs[log];
    }

    public int paper(int paper, int what) {
        Paper p = paperAt(paper);
        return p == null ? NONE : p.tell(what);
    }

    public int deed(int week, int k, int what) {
        Week w = weekAt(week);
        if (w == null) {
            return ABSENT;
        }
        if (k == NONE && what == 0) {
            return w.deeds;
        }
        if (k < 0 || k >= w.deeds || what < 0 || what > 2) {
            return ABSENT;
        }
        if (what == 0) {
            return w.kind[k];
        }
        return what == 1 ? w.one[k] : w.two[k];
    }

    public int fact(int log, int k, int what) {
        Log l = logAt(log);
        if (l == null) {
            return ABSENT;
        }
        if (k == NONE && what == 0) {
            return l.facts;
        }
        if (k < 0 || k >= l.facts || what < 0 || what > 1) {
            return ABSENT;
        }
        return what == 0 ? l.place[k] : l.word[k];
    }

    // ---- weeks ----

    public int stop(int paper, int week) {
        Paper p = paperAt(paper);
        Week w = weekAt(week);
        return p == null || w == null ? NONE : stand.run(p, w, w.deeds);
    }

    public int state(int paper, int week, int n, int what) {
        Paper p = paperAt(paper);
        Week w = weekAt(week);
        if (p == null || w == null || n < 0 || n > w.deeds) {
            return ABSENT;
        }
        return stand.run(p, w, n) < n ? ABSENT : stand.tell(what);
    }

    public int after(int paper, int week, int what) {
        Paper p = paperAt(paper);
        Week w = weekAt(week);
        if (p == null || w == null) {
            return ABSENT;
        }
        stand.run(p, w, w.deeds);
        switch (what) {
            case 0: return stand.firstChange;
            case 1: return stand.busiest();
            case 2: return stand.sets;
            case 3: return stand.touched;
            case 4: return stand.unlike;
            default: return ABSENT;
        }
    }

    public int drawn(int paper, int seed, int n, int what) {
        Paper p = paperAt(paper);
        if (p == null || n < 0 || n > MOST_DRAWN) {
            return ABSENT;
        }
        lots.draw(p, seed, n);
        stand.runWhatMay(p, lots.week);
        return stand.tell(what);
    }

    // ---- words that are near ----

    public int steps(int paper, int a, int b) {
        Paper p = paperAt(paper);
        return p == null ? NONE : p.net.between(a, b);
    }

    public int towards(int paper, int from, int to) {
        Paper p = paperAt(paper);
        return p == null ? NONE : p.net.next(from, to);
    }

    public int kin(int paper, int what) {
        Paper p = paperAt(paper);
        if (p == null) {
            return ABSENT;
        }
        switch (what) {
            case 0: return p.net.kinds();
            case 1: return p.net.largest();
            case 2: return p.net.widest();
            case 3: return p.net.lone();
            case 4: return bridges(p);
            case 5: return circle(p);
            default: return ABSENT;
        }
    }

    private int bridges(Paper p) {
        int many = 0;
        draft.copy(p.net);
        for (int a = 0; a < WORDS; a++) {
            for (int b = a + 1; b < WORDS; b++) {
                if (p.net.near(a, b) && aroundTo(a, b) == NONE) {
                    many++;
                }
            }
        }
        return many;
    }

    private int circle(Paper p) {
        int least = NONE;
        draft.copy(p.net);
        for (int a = 0; a < WORDS; a++) {
            for (int b = a + 1; b < WORDS; b++) {
                int around = p.net.near(a, b) ? aroundTo(a, b) : NONE;
                if (around != NONE && (least == NONE || around + 1 < least)) {
                    least = around + 1;
                }
            }
        }
        return least;
    }

    /** STEPS in the draft between two NEAR WORDS, were they not. */
    private int aroundTo(int a, int b) {
        draft.part(a, b);
        int around = draft.between(a, b);
        draft.join(a, b);
        return around;
    }

    // ---- readings ----

    public int reading(int paper, int reader, int what) {
        Paper p = paperAt(paper);
        if (p == null || reader < 0 || reader >= p.readers) {
            return ABSENT;
        }
        int proof = p.readBy(reader, p.proof);
        if (what == 0) {
            return Integer.bitCount(unlikePlaces(p.proof, proof));
        }
        return what == 1 ? p.contentOfAll(proof) : standsAt(p, proof, what);
    }

    /** What stands at a PLACE, by a what of 10 + p; ABSENT for another one. */
    private static int standsAt(Paper p, int proof, int what) {
        int place = what - 10;
        return place < 0 || place >= p.places ? ABSENT : wordAt(proof, place);
    }

    public int rounds(int paper, int what) {
        Paper p = paperAt(paper);
        if (p == null) {
            return ABSENT;
        }
        laps.run(p);
        if (what == 0) {
            return laps.settled;
        }
        return what == 1 ? laps.ring : standsAt(p, laps.last, what);
    }

    public int distance(int paper, int reader, int what) {
        Paper p = paperAt(paper);
        if (p == null || reader < 0 || reader >= p.readers) {
            return ABSENT;
        }
        switch (what) {
            case 0: return p.farFrom(reader);
            case 1: return p.readingsOf(reader);
            case 2: return p.rivals(reader);
            default: return ABSENT;
        }
    }

    public int lastWord(int paper, int what) {
        Paper p = paperAt(paper);
        if (p == null) {
            return ABSENT;
        }
        switch (what) {
            case 0: return p.idle();
            case 1: return which(bestLast(p));
            case 2: return howMuch(bestLast(p));
            case 3: return which(bestSwap(p));
            case 4: return howMuch(bestSwap(p));
            case 5: return which(bestCouple(p));
            case 6: return howMuch(bestCouple(p));
            default: return blame(p, what - 10);
        }
    }

    /** The best of several is told as 100 times how much and which, or NONE. */
    private static int which(int best) {
        return best < 0 ? NONE : best % 100;
    }

    private static int howMuch(int best) {
        return best < 0 ? 0 : best / 100;
    }

    private static int bestLast(Paper p) {
        int best = NONE;
        for (int last = 0; last < p.readers; last++) {
            int proof = p.proof;
            for (int r = 0; r < p.readers; r++) {
                proof = r == last ? proof : p.readBy(r, proof);
            }
            best = better(best, p.contentOfAll(p.readBy(last, proof)), last);
        }
        return best;
    }

    private static int bestSwap(Paper p) {
        int best = NONE;
        for (int a = 0; a < p.readers; a++) {
            for (int b = a + 1; b < p.readers; b++) {
                int proof = p.proof;
                for (int r = 0; r < p.readers; r++) {
                    proof = p.readBy(r == a ? b : r == b ? a : r, proof);
                }
                best = better(best, p.contentOfAll(proof), 10 * a + b);
            }
        }
        return best;
    }

    private int bestCouple(Paper p) {
        int best = NONE;
        draft.copy(p.net);
        for (int a = 0; a < WORDS; a++) {
            for (int b = a + 1; b < WORDS; b++) {
                if (!p.net.near(a, b)) {
                    draft.join(a, b);
                    best = better(best, p.contentOfAll(p.round(draft, p.proof)), 10 * a + b);
                    draft.part(a, b);
                }
            }
        }
        return best;
    }

    private static int better(int best, int much, int which) {
        return best < 0 || much > best / 100 ? 100 * much + which : best;
    }

    private static int blame(Paper p, int place) {
        if (place < 0 || place >= p.places) {
            return ABSENT;
        }
        int blamed = NONE;
        int proof = p.proof;
        for (int r = 0; r < p.readers; r++) {
            int now = p.readBy(r, proof);
            if (wordAt(now, place) != wordAt(proof, place)) {
                blamed = r;
            }
            proof = now;
        }
        return blamed;
    }

    // ---- readers and what they want ----

    public int desks(int paper, int n, int k) {
        Paper p = paperAt(paper);
        if (p == null || n < 1 || n > 3 || k < NONE || k >= p.readers) {
            return NONE;
        }
        int rowsOfDesks = 1;
        for (int r = 0; r < p.readers; r++) {
            rowsOfDesks *= n;
        }
        int best = 0;
        int soonest = MOST_DAYS + 1;
        for (int at = 0; at < rowsOfDesks; at++) {
            int days = longestDesk(p, n, at);
            if (days < soonest) {
                soonest = days;
                best = at;
            }
        }
        return k == NONE ? soonest : deskOf(p, n, best, k);
    }

    /** A row of desks is a number to the base n, the first READER's the highest digit. */
    private static int deskOf(Paper p, int n, int at, int reader) {
        int rest = at;
        for (int r = p.readers - 1; r > reader && n > 0; r--) {
            rest /= n;
        }
        return n > 0 ? rest % n : 0;
    }

    private int longestDesk(Paper p, int n, int at) {
        clearRow();
        int rest = at;
        int longest = 0;
        for (int r = p.readers - 1; r >= 0 && n > 0 && n <= WORDS; r--) {
            int desk = rest % n;
            rest /= n;
            row[desk] += p.days[r];
            longest = Math.max(longest, row[desk]);
        }
        return longest;
    }

    private void clearRow() {
        for (int i = 0; i < WORDS; i++) {
            row[i] = 0;
        }
    }

    public int quarrel(int paper, int a, int b, int n, boolean first) {
        Paper p = paperAt(paper);
        if (p == null || n < 0 || n > MOST_TURNS || a == b || a < 0 || b < 0
                || a >= p.readers || b >= p.readers) {
            return QUARREL_ABSENT;
        }
        int lead = p.content(a, p.proof) - p.content(b, p.proof);
        if (!first) {
            return bestLead(p, a, b, n, p.proof, lead);
        }
        return n == 0 ? NONE : bestPlace(p, a, b, n, lead);
    }

    private static int bestPlace(Paper p, int a, int b, int n, int lead) {
        int best = MOST_PLACES;
        int most = -bestLead(p, b, a, n - 1, p.proof, -lead);
        for (int place = p.places - 1; place >= 0; place--) {
            int word = p.net.next(wordAt(p.proof, place), p.wish(a, place));
            if (word != NONE) {
                int then = lead + p.gain(a, b, place, p.proof, word);
                int much = -bestLead(p, b, a, n - 1, put(p.proof, place, word), -then);
                if (much >= most) {
                    most = much;
                    best = place;
                }
            }
        }
        return best;
    }

    /** The most by which one's CONTENT is ahead of the other's in the end, if he is the next of so many. */
    private static int bestLead(Paper p, int one, int other, int turns, int proof, int lead) {
        if (turns <= 0) {
            return lead;
        }
        int most = -bestLead(p, other, one, turns - 1, proof, -lead);
        for (int place = 0; place < p.places; place++) {
            int word = p.net.next(wordAt(proof, place), p.wish(one, place));
            if (word != NONE) {
                int then = lead + p.gain(one, other, place, proof, word);
                most = Math.max(most, -bestLead(p, other, one, turns - 1, put(proof, place, word), -then));
            }
        }
        return most;
    }

    public int signs(int paper, boolean which) {
        Paper p = paperAt(paper);
        if (p == null) {
            return NONE;
        }
        int couples = 0;
        for (int a = 0; a < p.readers; a++) {
            for (int b = a + 1; b < p.readers; b++) {
                pairs[couples++] = p.unlikeWishes(a, b);
            }
        }
        int best = NONE;
        for (int places = 0; places < 1 << p.places; places++) {
            if (tellsApart(places, couples)
                    && (best == NONE || Integer.bitCount(places) < Integer.bitCount(best))) {
                best = places;
            }
        }
        return best == NONE || which ? best : Integer.bitCount(best);
    }

    private boolean tellsApart(int places, int couples) {
        for (int i = 0; i < couples; i++) {
            if ((pairs[i] & places) == 0) {
                return false;
            }
        }
        return true;
    }

    public int vote(int paper, int place) {
        Paper p = paperAt(paper);
        if (p == null || place < 0 || place >= p.places) {
            return NONE;
        }
        clearRow();
        for (int r = 0; r < p.readers; r++) {
            int wish = p.wish(r, place);
            if (wish < WORDS) {
                row[wish]++;
            }
        }
        return mostOfRow();
    }

    /** The least of those that the row counts most; NONE if it counts nothing. */
    private int mostOfRow() {
        int best = NONE;
        for (int i = 0; i < WORDS; i++) {
            if (row[i] > 0 && (best == NONE || row[i] > row[best])) {
                best = i;
            }
        }
        return best;
    }

    public int peace(int paper, boolean which) {
        Paper p = paperAt(paper);
        if (p == null) {
            return NONE;
        }
        for (int r = 0; r < p.readers; r++) {
            pairs[r] = p.rivals(r);
        }
        int best = 0;
        for (int group = 1; group < 1 << p.readers; group++) {
            if (Integer.bitCount(group) > Integer.bitCount(best) && atPeace(group, p.readers)) {
                best = group;
            }
        }
        return which ? best : Integer.bitCount(best);
    }

    private boolean atPeace(int group, int readers) {
        for (int r = 0; r < readers; r++) {
            if ((group >> r & 1) != 0 && (group & pairs[r]) != 0) {
                return false;
            }
        }
        return true;
    }

    public int median(int paper, int place, boolean much) {
        Paper p = paperAt(paper);
        if (p == null || place < 0 || place >= p.places) {
            return NONE;
        }
        int best = 0;
        int least = p.stepsToAll(0, place);
        for (int word = 1; word < WORDS; word++) {
            int together = p.stepsToAll(word, place);
            if (together < least) {
                least = together;
                best = word;
            }
        }
        return much ? least : best;
    }

    // ---- the proof's words ----

    public int rise(int paper, int what) {
        Paper p = paperAt(paper);
        if (p == null) {
            return ABSENT;
        }
        switch (what) {
            case 0: return longestRise(p);
            case 1: return p.bend();
            case 2: return p.twice();
            case 3: return unlikeWords(p);
            case 4: return commonWord(p);
            default: return riseAt(p, what - 10);
        }
    }

    private void countWords(Paper p) {
        clearRow();
        for (int place = 0; place < p.places; place++) {
            int word = wordAt(p.proof, place);
            if (word < WORDS) {
                row[word]++;
            }
        }
    }

    private int unlikeWords(Paper p) {
        countWords(p);
        int many = 0;
        for (int word = 0; word < WORDS; word++) {
            many += row[word] > 0 ? 1 : 0;
        }
        return many;
    }

    private int commonWord(Paper p) {
        countWords(p);
        return mostOfRow();
    }

    /** Leaves in the row how long the longest rise is that begins at each PLACE. */
    private int longestRise(Paper p) {
        clearRow();
        int longest = 0;
        for (int from = p.places - 1; from >= 0; from--) {
            int behind = 0;
            for (int to = from + 1; to < p.places; to++) {
                if (wordAt(p.proof, to) > wordAt(p.proof, from)) {
                    behind = Math.max(behind, row[to]);
                }
            }
            row[from] = behind + 1;
            longest = Math.max(longest, row[from]);
        }
        return longest;
    }

    private int riseAt(Paper p, int k) {
        int longest = longestRise(p);
        if (k < 0 || k >= longest) {
            return ABSENT;
        }
        int at = 0;
        int word = NONE;
        int found = NONE;
        for (int place = 0; place < p.places; place++) {
            int here = wordAt(p.proof, place);
            if (at <= k && here > word && row[place] == longest - at) {
                word = here;
                found = place;
                at++;
            }
        }
        return found;
    }

    // ---- rows of all readers ----

    public int order(int paper, int k) {
        Paper p = paperAt(paper);
        if (p == null || k < NONE || k >= p.readers) {
            return NONE;
        }
        rows.make(paper, p);
        int best = rows.mostContent();
        return k == NONE ? rows.content[best] : rows.readerAt(best, k);
    }

    public int fits(int paper, int log, int what) {
        Paper p = paperAt(paper);
        Log l = logAt(log);
        if (p == null || l == null) {
            return ABSENT;
        }
        rows.make(paper, p);
        rows.choose(l);
        if (what == 0) {
            return rows.fitting;
        }
        if (what == 1) {
            return rows.ask(row);
        }
        if (what >= 2 && what < 2 + MOST_READERS) {
            return rows.sure(what - 2);
        }
        int k = what - 10;
        return k < 0 || k >= rows.fitting ? ABSENT : rows.name[rows.fit[k]];
    }

    public int ahead(int paper, int log, int a, int b, boolean under) {
        Paper p = paperAt(paper);
        Log l = logAt(log);
        if (p == null || l == null || a == b || a < 0 || b < 0 || a >= p.readers || b >= p.readers) {
            return NONE;
        }
        rows.make(paper, p);
        rows.choose(l);
        if (rows.fitting == 0) {
            return NONE;
        }
        return (int) inLeast(rows.manyAhead(a, b), rows.fitting, under);
    }

    public int firsts(int paper, int log, int what) {
        Paper p = paperAt(paper);
        Log l = logAt(log);
        if (p == null || l == null) {
            return ABSENT;
        }
        rows.make(paper, p);
        rows.choose(l);
        switch (what) {
            case 0: return rows.readersAt(0);
            case 1: return rows.readersAt(p.readers - 1);
            case 2: return rows.mostFitting();
            case 3: return rows.leastFitting();
            default: return ABSENT;
        }
    }

    // ---- chances ----

    public long come(int paper, int p, int n, boolean under) {
        Paper q = paperAt(paper);
        if (q == null || p < 0 || p > 10 || n < 0 || n > 3) {
            return NONE;
        }
        long all = 1;
        long away = 1;
        for (int i = 0; i < n; i++) {
            all *= 10;
            away *= 10 - p;
        }
        long one = inLeast(all - away, all, under);
        long together = 1;
        for (int r = 0; r < q.readers; r++) {
            together *= one;
        }
        return together;
    }

    /** One side of a fraction in least terms. */
    private static long inLeast(long over, long below, boolean under) {
        long a = below;
        long b = over;
        for (int i = 0; i < 100 && b != 0; i++) {
            long rest = a % b;
            a = b;
            b = rest;
        }
        long side = under ? below : over;
        return a > 0 ? side / a : side;
    }

    // ---- a PROOF is one number, four bits to a PLACE: so it is kept and compared at once ----

    private static int wordAt(int proof, int place) {
        return proof >>> 4 * place & 15;
    }

    private static int put(int proof, int place, int word) {
        return proof & ~(15 << 4 * place) | (word & 15) << 4 * place;
    }

    /** PLACES (bits) at which two PROOFS have unlike WORDS. */
    private static int unlikePlaces(int a, int b) {
        int places = 0;
        for (int place = 0; place < MOST_PLACES; place++) {
            if (wordAt(a, place) != wordAt(b, place)) {
                places |= 1 << place;
            }
        }
        return places;
    }

    private static boolean isWord(int word) {
        return word >= 0 && word < WORDS;
    }

    private static void copyRow(int[] from, int[] to) {
        System.arraycopy(from, 0, to, 0, Math.min(from.length, to.length));
    }

    /** Which WORDS are NEAR each other, and by how many STEPS all are apart. */
    private static final class Net {
        final int[] beside = new int[WORDS];
        // Kept for each WORD gone to, ten to a WORD, until two are joined or parted.
        final int[] far = new int[WORDS * WORDS];
        final int[] nearer = new int[WORDS * WORDS];
        int known;

        void clear() {
            for (int w = 0; w < WORDS; w++) {
                beside[w] = 0;
            }
            known = 0;
        }

        void copy(Net other) {
            copyRow(other.beside, beside);
            copyRow(other.far, far);
            copyRow(other.nearer, nearer);
            known = other.known;
        }

        boolean near(int a, int b) {
            return isWord(a) && isWord(b) && (beside[a] >> b & 1) != 0;
        }

        void join(int a, int b) {
            if (isWord(a) && isWord(b)) {
                beside[a] |= 1 << b;
                beside[b] |= 1 << a;
                known = 0;
            }
        }

        void part(int a, int b) {
            if (isWord(a) && isWord(b)) {
                beside[a] &= ~(1 << b);
                beside[b] &= ~(1 << a);
                known = 0;
            }
        }

        /** STEPS from a WORD to another. */
        int between(int from, int to) {
            if (from < 0 || from >= WORDS || to < 0 || to >= WORDS) {
                return NONE;
            }
            if ((known >> to & 1) == 0) {
                reach(to);
            }
            return far[WORDS * to + from];
        }

        /** TOWARDS a WORD from another. */
        int next(int from, int to) {
            if (from < 0 || from >= WORDS || to < 0 || to >= WORDS) {
                return NONE;
            }
            if ((known >> to & 1) == 0) {
                reach(to);
            }
            return nearer[WORDS * to + from];
        }

        /** Goes out from a WORD; the least of those as far claims a new one first, as TOWARDS has it. */
        private void reach(int to) {
            int base = WORDS * to;
            for (int w = 0; w < WORDS; w++) {
                far[base + w] = NONE;
                nearer[base + w] = NONE;
            }
            far[base + to] = 0;
            int open = ~(1 << to);
            int edge = 1 << to;
            for (int d = 1; d < WORDS && edge != 0; d++) {
                int fresh = 0;
                for (int w = 0; w < WORDS; w++) {
                    int claimed = (edge >> w & 1) != 0 ? beside[w] & open : 0;
                    for (int n = 0; n < WORDS && claimed != 0; n++) {
                        if ((claimed >> n & 1) != 0) {
                            far[base + n] = d;
                            nearer[base + n] = w;
                        }
                    }
                    open &= ~claimed;
                    fresh |= claimed;
                }
                edge = fresh;
            }
            known |= 1 << to;
        }

        private int kinOf(int word) {
            int kin = 0;
            for (int w = 0; w < WORDS; w++) {
                if (between(w, word) != NONE) {
                    kin |= 1 << w;
                }
            }
            return kin;
        }

        int kinds() {
            int many = 0;
            for (int w = 0; w < WORDS; w++) {
                // Each is counted at its least WORD.
                many += (kinOf(w) & (1 << w) - 1) == 0 ? 1 : 0;
            }
            return many;
        }

        int largest() {
            int most = 0;
            for (int w = 0; w < WORDS; w++) {
                most = Math.max(most, Integer.bitCount(kinOf(w)));
            }
            return most;
        }

        int widest() {
            int most = 0;
            for (int a = 0; a < WORDS; a++) {
                for (int b = 0; b < WORDS; b++) {
                    most = Math.max(most, between(a, b));
                }
            }
            return most;
        }

        int lone() {
            int words = 0;
            for (int w = 0; w < WORDS; w++) {
                words |= beside[w] == 0 ? 1 << w : 0;
            }
            return words;
        }
    }

    private static final class Paper {
        int proof;
        int places;
        int readers;
        final Net net = new Net();
        final int[] patience = new int[MOST_READERS];
        final int[] days = new int[MOST_READERS];
        final int[] wants = new int[MOST_READERS * MOST_PLACES];

        void clear() {
            proof = 0;
            places = 0;
            readers = 0;
            net.clear();
            for (int i = 0; i < wants.length; i++) {
                wants[i] = NOTHING;
            }
        }

        void copy(Paper other) {
            proof = other.proof;
            places = other.places;
            readers = other.readers;
            net.copy(other.net);
            copyRow(other.patience, patience);
            copyRow(other.days, days);
            copyRow(other.wants, wants);
        }

        void addPlace(int word) {
            if (places < MOST_PLACES) {
                proof = put(proof, places, word);
                places++;
            }
        }

        void addReader(int readerPatience, int readerDays) {
            if (readers < MOST_READERS) {
                patience[readers] = readerPatience;
                days[readers] = readerDays;
                readers++;
            }
        }

        void want(int reader, int place, int word) {
            if (reader >= 0 && reader < MOST_READERS && place >= 0 && place < MOST_PLACES) {
                wants[MOST_PLACES * reader + place] = word;
            }
        }

        int wish(int reader, int place) {
            if (reader < 0 || reader >= MOST_READERS || place < 0 || place >= MOST_PLACES) {
                return NOTHING;
            }
            return wants[MOST_PLACES * reader + place];
        }

        /** What paper() tells. */
        int tell(int what) {
            if (what < 0) {
                return NONE;
            }
            int i = what % 10;
            switch (what / 10) {
                case 0: return i == 0 ? places : i == 1 ? readers : NONE;
                case 1: return i < places ? wordAt(proof, i) : NONE;
                case 2: return net.beside[i];
                case 3: return i < readers ? patience[i] : NONE;
                case 4: return i < readers ? days[i] : NONE;
                default: break;
            }
            int reader = what / 10 - 10;
            return reader < 0 || reader >= readers || i >= places ? NONE : wish(reader, i);
        }

        int content(int reader, int ofProof) {
            int many = 0;
            for (int place = 0; place < places; place++) {
                many += wish(reader, place) == wordAt(ofProof, place) ? 1 : 0;
            }
            return many;
        }

        int contentOfAll(int ofProof) {
            int many = 0;
            for (int r = 0; r < readers; r++) {
                many += content(r, ofProof);
            }
            return many;
        }

        /** By how much one's CONTENT less the other's grows, if a WORD is put at a PLACE. */
        int gain(int one, int other, int place, int ofProof, int word) {
            return leadAt(one, other, place, word) - leadAt(one, other, place, wordAt(ofProof, place));
        }

        private int leadAt(int one, int other, int place, int word) {
            return (wish(one, place) == word ? 1 : 0) - (wish(other, place) == word ? 1 : 0);
        }

        int readBy(int reader, int ofProof) {
            return readIn(net, reader, ofProof, 0);
        }

        /** The PROOF behind a READING, by WORDS NEAR as a net has them, with PLACES (bits) left. */
        int readIn(Net by, int reader, int ofProof, int leave) {
            if (reader < 0 || reader >= readers) {
                return ofProof;
            }
            int now = ofProof;
            int left = patience[reader];
            for (int place = 0; place < places && left > 0; place++) {
                int wish = (leave >> place & 1) != 0 ? NOTHING : wish(reader, place);
                int word = wish == NOTHING ? NONE : by.next(wordAt(now, place), wish);
                if (word != NONE) {
                    now = put(now, place, word);
                    left--;
                }
            }
            return now;
        }

        int round(Net by, int ofProof) {
            int now = ofProof;
            for (int r = 0; r < readers; r++) {
                now = readIn(by, r, now, 0);
            }
            return now;
        }

        int idle() {
            int bits = 0;
            for (int r = 0; r < readers; r++) {
                bits |= readBy(r, proof) == proof ? 1 << r : 0;
            }
            return bits;
        }

        int farFrom(int reader) {
            int together = 0;
            for (int place = 0; place < places; place++) {
                together += Math.max(0, net.between(wordAt(proof, place), wish(reader, place)));
            }
            return together;
        }

        int readingsOf(int reader) {
            int now = proof;
            // Each READING that changes anything brings him a STEP nearer: 72 at most.
            for (int k = 0; k < WORDS * MOST_PLACES; k++) {
                int then = readBy(reader, now);
                if (then == now) {
                    return k;
                }
                now = then;
            }
            return WORDS * MOST_PLACES;
        }

        int unlikeWishes(int a, int b) {
            int bits = 0;
            for (int place = 0; place < places; place++) {
                bits |= wish(a, place) != wish(b, place) ? 1 << place : 0;
            }
            return bits;
        }

        private boolean areRivals(int a, int b) {
            for (int place = 0; place < places; place++) {
                int one = wish(a, place);
                int other = wish(b, place);
                if (one != NOTHING && other != NOTHING && one != other) {
                    return true;
                }
            }
            return false;
        }

        int rivals(int reader) {
            int bits = 0;
            for (int r = 0; r < readers; r++) {
                bits |= areRivals(reader, r) ? 1 << r : 0;
            }
            return bits;
        }

        int stepsToAll(int word, int place) {
            int together = 0;
            for (int r = 0; r < readers; r++) {
                int wish = wish(r, place);
                if (wish != NOTHING) {
                    int steps = net.between(word, wish);
                    together += steps == NONE ? 10 : steps;
                }
            }
            return together;
        }

        int bend() {
            int many = 0;
            for (int place = 0; place < places - 1 - place; place++) {
                many += wordAt(proof, place) != wordAt(proof, places - 1 - place) ? 1 : 0;
            }
            return many;
        }

        int twice() {
            int longest = 0;
            for (int a = 0; a < places; a++) {
                for (int b = a + 1; b < places; b++) {
                    longest = Math.max(longest, alikeFrom(a, b));
                }
            }
            return longest;
        }

        private int alikeFrom(int a, int b) {
            int many = 0;
            while (b + many < places && wordAt(proof, a + many) == wordAt(proof, b + many)) {
                many++;
            }
            return many;
        }
    }

    /** DEEDS, told or drawn. */
    private static final class Week {
        int deeds;
        final int[] kind = new int[MOST_DRAWN];
        final int[] one = new int[MOST_DRAWN];
        final int[] two = new int[MOST_DRAWN];

        void copy(Week other) {
            deeds = other.deeds;
            copyRow(other.kind, kind);
            copyRow(other.one, one);
            copyRow(other.two, two);
        }

        void add(int line, int first, int second) {
            if (deeds < MOST_DRAWN) {
                kind[deeds] = line;
                one[deeds] = first;
                two[deeds] = second;
                deeds++;
            }
        }
    }

    private static final class Log {
        int facts;
        final int[] place = new int[MOST_FACTS];
        final int[] word = new int[MOST_FACTS];

        void copy(Log other) {
            facts = other.facts;
            copyRow(other.place, place);
            copyRow(other.word, word);
        }

        void add(int atPlace, int ofWord) {
            if (facts < MOST_FACTS) {
                place[facts] = atPlace;
                word[facts] = ofWord;
                facts++;
            }
        }

        boolean agrees(int places, int proof) {
            for (int k = 0; k < facts; k++) {
                if (place[k] >= places || wordAt(proof, place[k]) != word[k]) {
                    return false;
                }
            }
            return true;
        }
    }

    /** All that is told: what an image keeps. */
    private static final class Told {
        final byte[] tape = new byte[MOST_BYTES];
        int bytes;
        int fault;
        int place = NONE;
        final int[] many = new int[SORTS];
        final Paper[] papers = new Paper[MOST];
        final Week[] weeks = new Week[MOST];
        final Log[] logs = new Log[MOST];

        Told() {
            for (int i = 0; i < MOST; i++) {
                papers[i] = new Paper();
                weeks[i] = new Week();
                logs[i] = new Log();
            }
        }

        void append(int number) {
            for (int shift = 24; shift >= 0 && bytes < MOST_BYTES; shift -= 8) {
                tape[bytes] = (byte) (number >>> shift);
                bytes++;
            }
        }

        void take(Scan scan, int sort, int number) {
            if (sort < 0 || sort >= SORTS || number < 0 || number >= MOST) {
                return;
            }
            if (sort == PAPERS) {
                papers[number].copy(scan.paper);
            } else if (sort == WEEKS) {
                weeks[number].copy(scan.week);
            } else {
                logs[number].copy(scan.log);
            }
            many[sort] = Math.max(many[sort], number + 1);
        }

        void copy(Told other) {
            System.arraycopy(other.tape, 0, tape, 0, MOST_BYTES);
            bytes = other.bytes;
            fault = other.fault;
            place = other.place;
            copyRow(other.many, many);
            for (int i = 0; i < MOST; i++) {
                papers[i].copy(other.papers[i]);
                weeks[i].copy(other.weeks[i]);
                logs[i].copy(other.logs[i]);
            }
        }
    }

    /** Reads the tape as a text, line by line. */
    private static final class Scan {
        private static final int END = 0;
        private static final int LETTERS = 1;
        private static final int NUMBER = 2;
        private static final int MARK = 3;
        private static final int OTHER = 4;

        final Paper paper = new Paper();
        final Week week = new Week();
        final Log log = new Log();
        int wrong;
        int place;

        private final byte[] tape = new byte[MOST_BYTES];
        private int bytes;
        private int at;
        // The token that is looked at: its kind, its first byte, its NUMBER.
        private int token;
        private int from;
        private int value;
        private final int[] numbers = new int[3];
        private int lastReader;
        private int lastPlace;

        void take(byte[] ofTape, int many, int sort) {
            bytes = Math.max(0, Math.min(many, Math.min(ofTape.length, MOST_BYTES)));
            System.arraycopy(ofTape, 0, tape, 0, bytes);
            paper.clear();
            week.deeds = 0;
            log.facts = 0;
            wrong = 0;
            place = NONE;
            at = 0;
            lastReader = NONE;
            lastPlace = NONE;
            move();
            // A line has two bytes at least.
            for (int k = 0; k < MOST_BYTES && token != END && wrong != 1; k++) {
                line(sort);
            }
            if (wrong == 0 && lastReader >= paper.readers) {
                note(4, bytes);
            }
            if (wrong == 0 && lastPlace >= paper.places) {
                note(5, bytes);
            }
        }

        private void line(int sort) {
            int line = lineOf(sort);
            if (line == NONE) {
                breakOff();
                return;
            }
            if (isFull(line)) {
                note(3, from);
            }
            int many = NUMBERS_OF[line];
            move();
            for (int i = 0; i < many; i++) {
                if (token != NUMBER) {
                    breakOff();
                    return;
                }
                numbers[i] = value;
                if (!mayBe(line, i)) {
                    note(2, from);
                }
                move();
            }
            if (token != MARK) {
                breakOff();
                return;
            }
            move();
            keep(line);
        }

        /** Of FAULTS 2 to 5 the first one stays: they are met by place. */
        private void note(int what, int where) {
            if (wrong == 0) {
                wrong = what;
                place = where;
            }
        }

        private void breakOff() {
            wrong = 1;
            place = from;
        }

        private int lineOf(int sort) {
            if (token != LETTERS) {
                return NONE;
            }
            if (sort == PAPERS) {
                return spells("word") ? WORD : spells("near") ? NEAR
                    : spells("reader") ? READER : spells("wants") ? WANTS : NONE;
            }
            if (sort == WEEKS) {
                return spells("read") ? READ : spells("set") ? SET : spells("stet") ? STET
                    : spells("join") ? JOIN : spells("part") ? PART : spells("print") ? PRINT : NONE;
            }
            return spells("was") ? WAS : NONE;
        }

        private boolean spells(String word) {
            int many = word.length();
            if (at - from != many) {
                return false;
            }
            for (int i = 0; i < many; i++) {
                if (byteAt(from + i) != word.charAt(i)) {
                    return false;
                }
            }
            return true;
        }

        private boolean isFull(int line) {
            switch (line) {
                case WORD: return paper.places >= MOST_PLACES;
                case READER: return paper.readers >= MOST_READERS;
                case NEAR:
                case WANTS: return false;
                case WAS: return log.facts >= MOST_FACTS;
                default: return week.deeds >= MOST_DEEDS;
            }
        }

        private boolean mayBe(int line, int i) {
            if (numbers[i] > GREATEST[3 * line + i]) {
                return false;
            }
            if (i == 1 && line == READER) {
                return numbers[1] > 0;
            }
            boolean two = line == NEAR || line == JOIN || line == PART;
            return !(i == 1 && two && numbers[1] == numbers[0]);
        }

        private void keep(int line) {
            switch (line) {
                case WORD:
                    paper.addPlace(numbers[0]);
                    break;
                case NEAR:
                    paper.net.join(numbers[0], numbers[1]);
                    break;
                case READER:
                    paper.addReader(numbers[0], numbers[1]);
                    break;
                case WANTS:
                    paper.want(numbers[0], numbers[1], numbers[2]);
                    lastReader = Math.max(lastReader, numbers[0]);
                    lastPlace = Math.max(lastPlace, numbers[1]);
                    break;
                case WAS:
                    log.add(numbers[0], numbers[1]);
                    break;
                default:
                    int many = NUMBERS_OF[line];
                    week.add(line, many > 0 ? numbers[0] : NONE, many > 1 ? numbers[1] : NONE);
                    break;
            }
        }

        private int byteAt(int i) {
            return i >= 0 && i < bytes ? tape[i] : NONE;
        }

        private static boolean isLetter(int sign) {
            return sign >= 'a' && sign <= 'z';
        }

        private static boolean isDigit(int sign) {
            return sign >= '0' && sign <= '9';
        }

        private void move() {
            while (at < bytes && (byteAt(at) == 10 || byteAt(at) == 32)) {
                at++;
            }
            from = at;
            if (at >= bytes) {
                token = END;
            } else if (isLetter(byteAt(at))) {
                token = LETTERS;
                while (at < bytes && isLetter(byteAt(at))) {
                    at++;
                }
            } else if (isDigit(byteAt(at))) {
                moveOverDigits();
            } else {
                token = byteAt(at) == ';' ? MARK : OTHER;
                at++;
            }
        }

        private void moveOverDigits() {
            value = 0;
            while (at < bytes && isDigit(byteAt(at))) {
                // Past two digits it is no NUMBER, whatever the value.
                value = at - from < 2 ? 10 * value + byteAt(at) - '0' : value;
                at++;
            }
            token = at - from <= 2 ? NUMBER : OTHER;
        }
    }

    /** How a PAPER stands behind DEEDS. */
    private static final class Stand {
        private Paper paper = new Paper();
        private final Net net = new Net();
        private int proof;
        private final int[] leave = new int[MOST_READERS];
        private final int[] made = new int[MOST_READERS];
        private int changes;
        private int prints;
        private final int[] printed = new int[MOST_DRAWN];
        private int lastPrinted;
        int firstChange;
        int sets;
        int touched;
        int unlike;

        private void begin(Paper of) {
            paper = of;
            net.copy(of.net);
            proof = of.proof;
            for (int r = 0; r < MOST_READERS; r++) {
                leave[r] = 0;
                made[r] = 0;
            }
            changes = 0;
            prints = 0;
            lastPrinted = 0;
            firstChange = NONE;
            sets = 0;
            touched = 0;
            unlike = 0;
        }

        /** Does the first n DEEDS, up to the first that can't be: how many it did. */
        int run(Paper of, Week week, int n) {
            begin(of);
            for (int k = 0; k < n && k < week.deeds; k++) {
                if (!does(week.kind[k], week.one[k], week.two[k])) {
                    return k;
                }
                if (changes > 0 && firstChange == NONE) {
                    firstChange = k;
                }
            }
            return Math.min(n, week.deeds);
        }

        /** Does those DEEDS that can be, and leaves out the others. */
        void runWhatMay(Paper of, Week week) {
            begin(of);
            for (int k = 0; k < week.deeds; k++) {
                does(week.kind[k], week.one[k], week.two[k]);
            }
        }

        private boolean can(int kind, int one, int two) {
            boolean reader = one >= 0 && one < paper.readers;
            switch (kind) {
                case READ: return reader;
                case SET: return one >= 0 && one < paper.places && wordAt(proof, one) != two;
                case STET: return reader && two >= 0 && two < paper.places && (leave[one] >> two & 1) == 0;
                case JOIN: return one != two && !net.near(one, two);
                case PART: return net.near(one, two);
                default: return true;
            }
        }

        /** Does a DEED, if it can be: whether it could. */
        private boolean does(int kind, int one, int two) {
            if (!can(kind, one, two)) {
                return false;
            }
            switch (kind) {
                case READ:
                    read(one);
                    break;
                case SET:
                    proof = put(proof, one, two);
                    sets++;
                    touched |= 1 << one;
                    break;
                case STET:
                    leave[one] |= 1 << two;
                    break;
                case JOIN:
                    net.join(one, two);
                    break;
                case PART:
                    net.part(one, two);
                    break;
                default:
                    print();
                    break;
            }
            return true;
        }

        private void read(int reader) {
            int now = paper.readIn(net, reader, proof, leave[reader]);
            int places = unlikePlaces(proof, now);
            int many = Integer.bitCount(places);
            proof = now;
            changes += many;
            made[reader] += many;
            touched |= places;
        }

        private void print() {
            prints++;
            lastPrinted = proof;
            for (int i = 0; i < unlike; i++) {
                if (printed[i] == proof) {
                    return;
                }
            }
            if (unlike < printed.length) {
                printed[unlike] = proof;
                unlike++;
            }
        }

        int busiest() {
            int best = NONE;
            for (int r = 0; r < paper.readers; r++) {
                if (made[r] > 0 && (best == NONE || made[r] > made[best])) {
                    best = r;
                }
            }
            return best;
        }

        /** What state() tells. */
        int tell(int what) {
            if (what < 0) {
                return ABSENT;
            }
            int i = what % 10;
            switch (what / 10) {
                case 0: return i == 0 ? changes : i == 1 ? prints : ABSENT;
                case 1: return i < paper.places ? wordAt(proof, i) : ABSENT;
                case 2: return i >= paper.places ? ABSENT : prints == 0 ? NOTHING : wordAt(lastPrinted, i);
                case 3: return i < paper.readers ? paper.content(i, proof) : ABSENT;
                case 4: return i < paper.readers ? leave[i] : ABSENT;
                case 5: return net.beside[i];
                default: return ABSENT;
            }
        }
    }

    /** Draws DEEDS by a SEED; what is drawn hangs on how many READERS and PLACES there are, not on how it stands. */
    private static final class Lots {
        final Week week = new Week();
        private int seed;

        void draw(Paper paper, int withSeed, int n) {
            week.deeds = 0;
            seed = withSeed;
            for (int k = 0; k < n; k++) {
                drawDeed(paper.readers, paper.places, below(10));
            }
        }

        private int below(int n) {
            seed = seed * 1103515245 + 12345;
            return n > 0 ? (seed >>> 16) % n : 0;
        }

        private void drawDeed(int readers, int places, int lot) {
            if (lot <= 3) {
                if (readers > 0) {
                    week.add(READ, below(readers), NONE);
                }
            } else if (lot <= 5) {
                if (places > 0) {
                    int place = below(places);
                    week.add(SET, place, below(WORDS));
                }
            } else if (lot == 6) {
                if (readers > 0 && places > 0) {
                    int reader = below(readers);
                    week.add(STET, reader, below(places));
                }
            } else if (lot <= 8) {
                int word = below(WORDS);
                week.add(lot == 7 ? JOIN : PART, word, (word + 1 + below(WORDS - 1)) % WORDS);
            } else {
                week.add(PRINT, NONE, NONE);
            }
        }
    }

    /** ROUNDS of all READERS. */
    private static final class Rounds {
        private final int[] behind = new int[MOST_ROUNDS + 1];
        int settled;
        int ring;
        int last;

        void run(Paper paper) {
            settled = NONE;
            ring = NONE;
            last = paper.proof;
            behind[0] = last;
            for (int k = 1; k <= MOST_ROUNDS && settled == NONE && ring == NONE; k++) {
                boolean changed = lap(paper);
                behind[k] = last;
                if (!changed) {
                    settled = k - 1;
                } else {
                    seek(k);
                }
            }
        }

        /** A round may change PLACES and change them back: so it is not told by the PROOF behind it. */
        private boolean lap(Paper paper) {
            boolean changed = false;
            for (int r = 0; r < paper.readers; r++) {
                int now = paper.readBy(r, last);
                changed = changed || now != last;
                last = now;
            }
            return changed;
        }

        private void seek(int k) {
            for (int j = 0; j < k; j++) {
                if (behind[j] == last) {
                    ring = k - j;
                }
            }
        }
    }

    /** All rows of a PAPER's READERS, by numbers, with what each leaves; kept while the PAPER is as it was. */
    private static final class Rows {
        private int of = NONE;
        private int many;
        private int readers;
        private int places;
        private final int[] row = new int[MOST_READERS];
        private final int[] proofs = new int[MOST_READERS + 1];
        final int[] name = new int[MOST_ROWS];
        private final int[] proof = new int[MOST_ROWS];
        final int[] content = new int[MOST_ROWS];
        /** Which of the rows FIT, and how many. */
        final int[] fit = new int[MOST_ROWS];
        int fitting;

        void forget() {
            of = NONE;
        }

        void make(int number, Paper paper) {
            if (of == number) {
                return;
            }
            of = number;
            many = 0;
            readers = Math.min(paper.readers, MOST_READERS);
            places = paper.places;
            for (int i = 0; i < readers; i++) {
                row[i] = i;
            }
            proofs[0] = paper.proof;
            int from = 0;
            for (int k = 0; k < MOST_ROWS && from != NONE; k++) {
                for (int i = from; i < readers; i++) {
                    proofs[i + 1] = paper.readBy(row[i], proofs[i]);
                }
                keep(paper);
                from = turn();
            }
        }

        private void keep(Paper paper) {
            int digits = 1;
            for (int i = 0; i < readers; i++) {
                digits = 10 * digits + row[i];
            }
            name[many] = digits;
            proof[many] = proofs[readers];
            content[many] = paper.contentOfAll(proofs[readers]);
            many++;
        }

        /** Makes the row the next one by numbers: from where on it is another, NONE if it was the last. */
        private int turn() {
            int at = readers - 2;
            while (at >= 0 && row[at] > row[at + 1]) {
                at--;
            }
            if (at < 0) {
                return NONE;
            }
            int other = readers - 1;
            while (other > at && row[other] < row[at]) {
                other--;
            }
            swap(at, other);
            for (int low = at + 1, high = readers - 1; low < high; low++, high--) {
                swap(low, high);
            }
            return at;
        }

        private void swap(int a, int b) {
            int was = row[a];
            row[a] = row[b];
            row[b] = was;
        }

        int readerAt(int ofRow, int i) {
            if (ofRow < 0 || ofRow >= many || i < 0 || i >= readers) {
                return NONE;
            }
            return name[ofRow] / TENS[readers - 1 - i] % 10;
        }

        int mostContent() {
            int best = 0;
            for (int k = 1; k < many; k++) {
                best = content[k] > content[best] ? k : best;
            }
            return best;
        }

        void choose(Log log) {
            fitting = 0;
            for (int k = 0; k < many; k++) {
                if (log.agrees(places, proof[k])) {
                    fit[fitting] = k;
                    fitting++;
                }
            }
        }

        /** ASK; the counts of WORDS are made in a row that is lent. */
        int ask(int[] counts) {
            int best = NONE;
            int least = MOST_ROWS + 1;
            for (int place = 0; place < places && fitting > 0; place++) {
                int most = mostAlike(place, counts);
                if (most < least) {
                    least = most;
                    best = place;
                }
            }
            return best;
        }

        private int mostAlike(int place, int[] counts) {
            for (int w = 0; w < counts.length; w++) {
                counts[w] = 0;
            }
            int most = 0;
            for (int k = 0; k < fitting; k++) {
                int word = wordAt(proof[fit[k]], place);
                if (word < counts.length) {
                    counts[word]++;
                    most = Math.max(most, counts[word]);
                }
            }
            return most;
        }

        int sure(int i) {
            int reader = fitting > 0 ? readerAt(fit[0], i) : NONE;
            for (int k = 1; k < fitting; k++) {
                if (readerAt(fit[k], i) != reader) {
                    return NONE;
                }
            }
            return reader;
        }

        int manyAhead(int a, int b) {
            int ahead = 0;
            for (int k = 0; k < fitting; k++) {
                for (int i = 0; i < readers; i++) {
                    int reader = readerAt(fit[k], i);
                    if (reader == a || reader == b) {
                        ahead += reader == a ? 1 : 0;
                        break;
                    }
                }
            }
            return ahead;
        }

        int readersAt(int i) {
            int bits = 0;
            for (int k = 0; k < fitting; k++) {
                int reader = readerAt(fit[k], i);
                bits |= reader == NONE ? 0 : 1 << reader;
            }
            return bits;
        }

        int mostFitting() {
            int most = NONE;
            for (int k = 0; k < fitting; k++) {
                most = Math.max(most, content[fit[k]]);
            }
            return most;
        }

        int leastFitting() {
            int least = NONE;
            for (int k = 0; k < fitting; k++) {
                int here = content[fit[k]];
                least = least == NONE ? here : Math.min(least, here);
            }
            return least;
        }
    }
}
