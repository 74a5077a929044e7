import java.util.ArrayList;
import java.util.List;
import java.util.Map;
import java.util.Random;
import java.util.regex.Matcher;
import java.util.regex.Pattern;

/** FAULTS of spoilt texts, held against a second way to find them: by patterns over the row of tokens. */
final class FaultTest {
    private static final Due due = new Due();
    private static final Pattern TOKEN = Pattern.compile("[a-z]+|[0-9]+|[^ \n]", Pattern.DOTALL);
    private static final List<Map<String, Character>> NAMES = List.of(
        Map.of("word", 'w', "near", 'n', "reader", 'r', "wants", 'a'),
        Map.of("read", 'r', "set", 's', "stet", 't', "join", 'j', "part", 'p', "print", 'i'),
        Map.of("was", 'w'));
    private static final List<Pattern> TEXTS = List.of(
        Pattern.compile("(w0;|n00;|r00;|a000;)*"),
        Pattern.compile("(r0;|[stjp]00;|i;)*"),
        Pattern.compile("(w00;)*"));
    private static final String[] PIECES = {"word", "near", "reader", "wants", "read", "set", "stet", "join",
        "part", "print", "was", ";", ";", "0", "1", "5", "6", "7", "8", "9", "10", "00", "09", "99", "123", "0000",
        " ", "\n", "\t", "A", "z", "\u00e9", "\0", "words", "prin", "-1", "3;", " 4 "};

    private static int[] faultOf(int sort, String text) {
        List<Integer> places = new ArrayList<>();
        List<String> tokens = new ArrayList<>();
        StringBuilder kinds = new StringBuilder();
        Matcher m = TOKEN.matcher(text);
        while (m.find()) {
            places.add(m.start());
            tokens.add(m.group());
            char kind = NAMES.get(sort).getOrDefault(m.group(), '?');
            kinds.append(m.group().equals(";") ? ';' : m.group().matches("[0-9]{1,2}") ? '0' : kind);
        }
        for (int n = 1; n <= tokens.size(); n++) {
            Matcher begun = TEXTS.get(sort).matcher(kinds.substring(0, n));
            if (!begun.matches() && !begun.hitEnd()) {
                return new int[] {1, places.get(n - 1)};
            }
        }
        if (!TEXTS.get(sort).matcher(kinds).matches()) {
            return new int[] {1, text.length()};
        }
        return laterFault(sort, text, kinds.toString(), tokens, places);
    }

    private static int[] laterFault(int sort, String text, String kinds, List<String> tokens, List<Integer> places) {
        int[] counts = new int[128];
        int reader = -1;
        int place = -1;
        for (int i = 0; i < tokens.size(); i = kinds.indexOf(';', i) + 1) {
            char line = kinds.charAt(i);
            char counted = sort == 1 ? 'd' : line;
            counts[counted]++;
            int most = sort == 1 ? 40 : sort == 2 ? 8 : line == 'w' ? 8 : line == 'r' ? 6 : 10000;
            if (counts[counted] > most) {
                return new int[] {3, places.get(i)};
            }
            int[] n = new int[4];
            for (int j = 1; kinds.charAt(i + j) == '0'; j++) {
                n[j] = Integer.parseInt(tokens.get(i + j));
                if (!may(sort, line, j, n)) {
                    return new int[] {2, places.get(i + j)};
                }
            }
            if (sort == 0 && line == 'a') {
                reader = Math.max(reader, n[1]);
                place = Math.max(place, n[2]);
            }
        }
        if (reader >= counts['r'] && sort == 0) {
            return new int[] {4, text.length()};
        }
        return sort == 0 && place >= counts['w'] ? new int[] {5, text.length()} : new int[] {0, -1};
    }

    private static boolean may(int sort, char line, int j, int[] n) {
        switch (sort + "" + line + j) {
            case "0r2": return n[2] >= 1 && n[2] <= 9;
            case "0n2": case "1j2": case "1p2": return n[2] <= 9 && n[2] != n[1];
            case "0a1": case "1r1": case "1t1": return n[1] <= 5;
            case "0a2": case "1t2": return n[2] <= 7;
            case "1s1": case "2w1": return n[1] <= 7;
            default: return n[j] <= 9;
        }
    }

    private static String randomText(int sort, Random z) {
        StringBuilder s = new StringBuilder();
        int lines = z.nextInt(4) == 0 ? 45 : z.nextInt(12);
        int odd = z.nextInt(3) == 0 ? 0 : 1 + z.nextInt(60);
        String[] forms = sort == 0 ? new String[] {"word N;", "near N N;", "reader N N;", "wants N N N;"}
            : sort == 1 ? new String[] {"read N;", "set N N;", "stet N N;", "join N N;", "part N N;", "print;"}
            : new String[] {"was N N;"};
        for (int i = 0; i < lines; i++) {
            String form = forms[z.nextInt(forms.length)];
            for (int j = 0; j < form.length(); j++) {
                char c = form.charAt(j);
                if (c == 'N') {
                    s.append(odd > 0 && z.nextInt(odd) == 0 ? z.nextInt(12) : 1 + z.nextInt(5));
                } else {
                    s.append(c == ' ' && z.nextInt(8) == 0 ? " \n " : "" + c);
                }
            }
        }
        for (int i = z.nextInt(3); i > 0 && z.nextInt(3) > 0; i--) {
            int at = z.nextInt(s.length() + 1);
            int to = Math.min(s.length(), at + z.nextInt(3));
            s.replace(at, to, PIECES[z.nextInt(PIECES.length)]);
        }
        return s.substring(0, Math.min(s.length(), 600));
    }

    public static void main(String[] args) {
        int[] met = new int[6];
        Random z = new Random(7);
        for (int i = 0; i < 60000; i++) {
            int sort = z.nextInt(3);
            String text = randomText(sort, z);
            int[] want = faultOf(sort, text);
            met[want[0]]++;
            ProofLine x = new ProofLine();
            due.at("sort " + sort + " «" + text + "»");
            due.is("text", Due.text(x, sort, -1, text), want[0] == 0 ? 0 : -1);
            due.is("fault 0", x.fault(0), want[0]);
            due.is("fault 1", x.fault(1), want[1]);
            due.is("count", x.count(sort), want[0] == 0 ? 1 : 0);
            due.is("tape", x.end(1), -1);
        }
        due.at("all");
        for (int fault = 0; fault < 6; fault++) {
            due.is("fault " + fault + " met often", met[fault] > 200, true);
        }
        due.finish();
    }
}
