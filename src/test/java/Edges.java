import java.lang.reflect.InvocationTargetException;
import java.lang.reflect.Method;
import java.util.Map;
import java.util.TreeMap;

/**
 * What the Edges...Test classes share. Each of their methods holds one sentence of ../shared/DOC.md that names a
 * boundary case; its name says the term or promise, and which sentence.
 */
final class Edges {
    static final int MIN = Integer.MIN_VALUE;
    static final int MAX = Integer.MAX_VALUE;
    static final int NONE = -1;
    /** Numbers that nothing has, but for NONE, which some calls take. */
    static final int[] ODD = {-2, -3, -10, -99, 1000, 65536, MIN, MIN + 1, MIN + 10, MAX, MAX - 1};

    private Edges() {
    }

    /** Runs all methods of a class whose names begin with term or promise; none may throw. */
    static void run(Class<?> tests, Due due) throws IllegalAccessException {
        Map<String, Method> byName = new TreeMap<>();
        for (Method m : tests.getDeclaredMethods()) {
            if (m.getName().startsWith("term") || m.getName().startsWith("promise")) {
                byName.put(m.getName(), m);
            }
        }
        for (Method m : byName.values()) {
            due.at(m.getName());
            try {
                m.invoke(null);
            } catch (InvocationTargetException e) {
                due.is("thrown: " + e.getCause(), true, false);
            }
        }
        due.is("there are tests", byName.size() > 0, true);
        due.finish();
    }

    static ProofLine papers(String... papers) {
        ProofLine x = new ProofLine();
        for (String paper : papers) {
            must(x, 0, paper);
        }
        return x;
    }

    static ProofLine weeks(String paper, String... weeks) {
        ProofLine x = papers(paper);
        for (String week : weeks) {
            must(x, 1, week);
        }
        return x;
    }

    static ProofLine logs(String paper, String... logs) {
        ProofLine x = papers(paper);
        for (String log : logs) {
            must(x, 2, log);
        }
        return x;
    }

    private static void must(ProofLine x, int sort, String text) {
        if (Due.text(x, sort, NONE, text) < 0) {
            throw new IllegalStateException("no text: " + text + ", FAULT " + x.fault(0) + " at " + x.fault(1));
        }
    }

    /** word lines, one for each digit. */
    static String proof(String words) {
        StringBuilder s = new StringBuilder();
        for (int i = 0; i < words.length(); i++) {
            s.append("word ").append(words.charAt(i)).append(";");
        }
        return s.toString();
    }

    /** near lines along rows of digits. */
    static String chains(String... rows) {
        StringBuilder s = new StringBuilder();
        for (String row : rows) {
            for (int i = 0; i + 1 < row.length(); i++) {
                s.append("near ").append(row.charAt(i)).append(" ").append(row.charAt(i + 1)).append(";");
            }
        }
        return s.toString();
    }

    /** A reader's line and wants lines: a digit for each PLACE, - for nothing. */
    static String reader(int reader, int patience, int days, String wishes) {
        StringBuilder s = new StringBuilder("reader " + patience + " " + days + ";");
        for (int i = 0; i < wishes.length(); i++) {
            if (wishes.charAt(i) != '-') {
                s.append("wants ").append(reader).append(" ").append(i).append(" ").append(wishes.charAt(i)).append(";");
            }
        }
        return s.toString();
    }

    /** Readers of so much patience each, one day, with wishes as above. */
    static String readers(int patience, String... wishes) {
        StringBuilder s = new StringBuilder();
        for (int r = 0; r < wishes.length; r++) {
            s.append(reader(r, patience, 1, wishes[r]));
        }
        return s.toString();
    }
}
