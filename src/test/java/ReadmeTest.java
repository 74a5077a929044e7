import java.lang.reflect.Method;
import java.lang.reflect.Modifier;
import java.nio.file.Files;
import java.nio.file.Path;
import java.util.ArrayList;
import java.util.List;
import java.util.regex.Matcher;
import java.util.regex.Pattern;

/** README.md names every call with as many numbers as it takes, and its example answers as it says. */
final class ReadmeTest {
    private static final Due due = new Due();
    /** A call of the example, and the answer behind it. */
    private static final Pattern ASKED = Pattern.compile("(text|x\\.\\w+)\\((.*)\\); // (\\S+)");

    public static void main(String[] args) throws Exception {
        String page = Files.readString(Path.of("README.md"));
        for (Method m : ProofLine.class.getDeclaredMethods()) {
            if (Modifier.isPublic(m.getModifiers())) {
                names(page, m);
            }
        }
        example(page.substring(page.indexOf("## An example"), page.indexOf("## How to run")));
        due.finish();
    }

    /** Each row of a table that begins with a call tells all that the call takes. */
    private static void names(String page, Method m) {
        due.at(m.getName());
        Matcher row = Pattern.compile("\\| `" + m.getName() + "\\(([^)]*)\\)` \\|").matcher(page);
        due.is("has a row", row.find(), true);
        if (row.reset().find()) {
            due.is("what it takes", row.group(1).split(", ").length, m.getParameterCount());
        }
    }

    private static void example(String page) throws Exception {
        // A text told in two parts is one, as the compiler has it.
        Matcher asked = ASKED.matcher(page.replaceAll("\"\\s+\\+ \"", ""));
        ProofLine x = new ProofLine();
        int many = 0;
        while (asked.find()) {
            String call = asked.group(1);
            due.at(asked.group());
            String answer = asked.group(3);
            long want = answer.equals("true") ? 1 : answer.equals("false") ? 0 : Long.parseLong(answer);
            due.is(call, call.equals("text") ? text(x, asked.group(2)) : ask(x, call.substring(2), asked.group(2)), want);
            many++;
        }
        due.at("the example");
        due.is("asks", many > 20, true);
        due.is("asks all its lines", many, page.lines().filter(l -> l.contains("); // ")).count());
    }

    private static long text(ProofLine x, String takes) {
        String[] part = takes.split(", ", 4);
        String words = part[3].substring(1, part[3].length() - 1);
        return Due.text(x, Integer.parseInt(part[1]), Integer.parseInt(part[2]), words);
    }

    private static long ask(ProofLine x, String name, String takes) throws Exception {
        List<Object> numbers = new ArrayList<>();
        for (String s : takes.split(", ")) {
            boolean yes = s.equals("true") || s.equals("false");
            numbers.add(yes ? (Object) Boolean.valueOf(s) : Integer.valueOf(s));
        }
        for (Method m : ProofLine.class.getDeclaredMethods()) {
            if (m.getName().equals(name) && m.getParameterCount() == numbers.size()) {
                Object got = m.invoke(x, numbers.toArray());
                return got instanceof Boolean ? ((Boolean) got ? 1 : 0) : ((Number) got).longValue();
            }
        }
        throw new IllegalArgumentException("no such call: " + name);
    }
}
