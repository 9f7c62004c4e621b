import java.io.IOException;
import java.nio.file.Files;
import java.nio.file.Path;
import java.util.ArrayList;
import java.util.LinkedHashMap;
import java.util.List;
import java.util.Map;
import java.util.Set;
import java.util.TreeSet;
import java.util.regex.Matcher;
import java.util.regex.Pattern;

/**
 * The tests in src/test/boundaries.txt: for each sentence of the document that names a boundary case one of its own,
 * and at least one for every sentence of its terms and promises. A test is told by the section, the sentence as the
 * document has it, and what is shown; below stand its calls, each with the answer that is due. How to write one stands
 * at the top of that file.
 */
public final class BoundaryTest {
    private static final Path TESTS = Path.of("src/test/boundaries.txt");
    private static final Path DOCUMENT = Path.of("../shared/DOC.md");
    private static final int MOST_CALLS = 512;
    private static final int PROMISES = 18;
    private static final int TERMS = 3;
    private static final Pattern ROW = Pattern.compile("(! )?(?:(\\d+) x )?(\\w+)\\(([^)]*)\\)(?: = (.*))?");
    private static int wrong = 0;

    /** One call; an idle one must leave all that is told as it was. */
    private record Call(boolean idle, String name, int[] arguments, String due) {
        @Override
        public String toString() {
            String inside = java.util.Arrays.toString(arguments);
            return name + "(" + inside.substring(1, inside.length() - 1) + ")";
        }
    }

    /** A test; each of its runs is on a new object. */
    private record Test(String section, String sentence, String shows, List<List<Call>> runs) { }

    private static void fault(String where, String text) {
        wrong++;
        System.out.println(where + ": " + text);
    }

    private static String answer(SumsThatTell x, String name, int... a) {
        return switch (name + "/" + a.length) {
            case "person/4" -> "" + x.person(a[0], a[1], a[2], a[3]);
            case "change/2" -> "" + x.change(a[0], a[1]);
            case "ask/4" -> "" + x.ask(a[0], a[1], a[2], a[3]);
            case "would/4" -> "" + x.would(a[0], a[1], a[2], a[3]);
            case "join/2" -> "" + x.join(a[0], a[1]);
            case "knows/3" -> "" + x.knows(a[0], a[1], a[2]);
            case "tables/1" -> "" + x.tables(a[0]);
            case "broken/1" -> "" + x.broken(a[0]);
            case "tell/2" -> "" + x.tell(a[0], a[1]);
            case "asked/2" -> "" + x.asked(a[0], a[1]);
            case "wish/3" -> "" + x.wish(a[0], a[1], a[2]);
            case "clear/0" -> {
                x.clear();
                yield "";
            }
            case "most/1" -> "" + x.most(a[0]);
            case "together/2" -> "" + x.together(a[0], a[1]);
            case "count/1" -> "" + x.count(a[0]);
            case "image/1" -> "" + x.image(a[0]);
            case "again/1" -> "" + x.again(a[0]);
            default -> "no such call";
        };
    }

    private static int numberOf(String text) {
        return switch (text) {
            case "MIN" -> Integer.MIN_VALUE;
            case "MAX" -> Integer.MAX_VALUE;
            default -> Integer.parseInt(text);
        };
    }

    private static String answerText(String text) {
        return text.equals("MIN") || text.equals("MAX") ? "" + numberOf(text) : text;
    }

    /** What an argument stands for: one number, or several of them, 'a|b' and 'a..b'. */
    private static List<Integer> choices(String text) {
        List<Integer> found = new ArrayList<>();
        for (String part : text.split("\\|")) {
            String[] ends = part.trim().split("\\.\\.");
            for (int i = numberOf(ends[0]); i < numberOf(ends[ends.length - 1]); i++) {
                found.add(i);
            }
            found.add(numberOf(ends[ends.length - 1]));
        }
        return found;
    }

    /** All rows of arguments that a row of choices stands for, the last argument changing fastest. */
    private static List<int[]> argumentRows(String text) {
        List<int[]> rows = new ArrayList<>();
        rows.add(new int[0]);
        for (String argument : text.isBlank() ? new String[0] : text.split(",")) {
            List<int[]> longer = new ArrayList<>();
            for (int[] row : rows) {
                for (int choice : choices(argument)) {
                    int[] next = java.util.Arrays.copyOf(row, row.length + 1);
                    next[row.length] = choice;
                    longer.add(next);
                }
            }
            rows = longer;
        }
        return rows;
    }

    private static List<Call> callsOf(String line) {
        Matcher m = ROW.matcher(line);
        if (!m.matches()) {
            throw new IllegalArgumentException("no row: " + line);
        }
        boolean idle = m.group(1) != null;
        int times = m.group(2) == null ? 1 : Integer.parseInt(m.group(2));
        List<int[]> rows = argumentRows(m.group(4));
        String[] due = m.group(5) == null ? new String[] {""} : m.group(5).trim().split(" +");
        if (rows.size() != 1 && due.length != 1 && rows.size() != due.length) {
            throw new IllegalArgumentException(rows.size() + " calls, " + due.length + " answers: " + line);
        }
        List<Call> calls = new ArrayList<>();
        for (int t = 0; t < times; t++) {
            for (int i = 0; i < Math.max(rows.size(), due.length); i++) {
                int[] arguments = rows.get(Math.min(i, rows.size() - 1));
                calls.add(new Call(idle, m.group(3), arguments, answerText(due[Math.min(i, due.length - 1)])));
            }
        }
        return calls;
    }

    private static List<Test> readTests() throws IOException {
        List<Test> tests = new ArrayList<>();
        List<List<Call>> runs = new ArrayList<>();
        for (String line : Files.readAllLines(TESTS)) {
            if (line.isBlank() || line.startsWith("#")) {
                continue;
            }
            if (!line.startsWith(" ") && !line.startsWith("!")) {
                String[] parts = line.split(" \\| ");
                if (parts.length != 3) {
                    throw new IllegalArgumentException("not section, sentence and what it shows: " + line);
                }
                runs = new ArrayList<>(List.of(new ArrayList<>()));
                tests.add(new Test(parts[0], parts[1], parts[2], runs));
            } else if (line.trim().equals("new")) {
                runs.add(new ArrayList<>());
            } else {
                runs.get(runs.size() - 1).addAll(callsOf(line.trim()));
            }
        }
        return tests;
    }

    /** An object on which a run was made, and how many calls that took. */
    private static final class Played {
        final SumsThatTell x = new SumsThatTell();
        int calls = 0;

        /** What is thrown counts as a wrong answer, so that the other tests are still made. */
        String answerTo(String name, int... arguments) {
            calls++;
            try {
                return answer(x, name, arguments);
            } catch (RuntimeException thrown) {
                return thrown.toString();
            }
        }

        int howMany(int what) {
            calls++;
            return x.count(what);
        }
    }

    private static Played play(String where, List<Call> run, boolean idleToo) {
        Played played = new Played();
        for (Call call : run) {
            if (idleToo || !call.idle) {
                String got = played.answerTo(call.name, call.arguments);
                if (!got.equals(call.due)) {
                    fault(where, "call " + played.calls + ", " + call + ", answered " + got + ", due is " + call.due
                        + (idleToo ? "" : " (without the calls that change nothing)"));
                }
            }
        }
        return played;
    }

    private static void note(Map<String, String> told, Played played, String name, int... arguments) {
        told.put(new Call(false, name, arguments, "").toString(), played.answerTo(name, arguments));
    }

    private static Map<String, String> allTold(Played played) {
        Map<String, String> told = new LinkedHashMap<>();
        for (int what = 0; what < 7; what++) {
            note(told, played, "count", what);
        }
        noteNumbers(told, played, played.howMany(0), played.howMany(1));
        noteAsks(told, played, played.howMany(3));
        for (int asker = 0; asker < 4; asker++) {
            note(told, played, "tables", asker);
            note(told, played, "broken", asker);
            note(told, played, "most", asker);
            for (int kind = 0; kind < 4; kind++) {
                note(told, played, "would", asker, kind, 255, 1);
            }
        }
        for (int wish = 0; wish < played.howMany(5); wish++) {
            note(told, played, "together", 3, 1 << wish);
        }
        return told;
    }

    private static void noteNumbers(Map<String, String> told, Played played, int people, int numbers) {
        for (int p = 0; p < people; p++) {
            note(told, played, "tell", p, 0);
        }
        for (int n = 0; n < numbers; n++) {
            for (int what = 1; what < 7; what++) {
                note(told, played, "tell", n, what);
            }
            for (int asker = 0; asker < 4; asker++) {
                for (int what = 0; what < 3; what++) {
                    note(told, played, "knows", asker, n, what);
                }
            }
        }
    }

    /** The first and the last few asks, as more of them would take too many calls. */
    private static void noteAsks(Map<String, String> told, Played played, int asks) {
        for (int k = 0; k < asks; k++) {
            if (k < 4 || k >= asks - 2) {
                for (int what = 0; what < 5; what++) {
                    note(told, played, "asked", k, what);
                }
            }
        }
    }

    private static void noteImages(Map<String, String> told, Played played) {
        for (int k = 0; k < 3; k++) {
            String isThere = played.answerTo("again", k);
            told.put("again(" + k + ")", isThere);
            for (int what = 0; what < 7; what++) {
                told.put("again(" + k + "), count(" + what + ")", played.answerTo("count", what));
            }
        }
    }

    /** All that is told after a run is as if the idle calls had not been made. */
    private static void idleCallsChangeNothing(String where, List<Call> run, Played with) {
        Played without = play(where, run, false);
        Map<String, String> got = allTold(with);
        Map<String, String> want = allTold(without);
        // A run may well take images and bring them back to show that nothing else changed.
        if (run.stream().noneMatch(call -> call.idle && call.name.equals("image") && call.due.equals("true"))) {
            noteImages(got, with);
            noteImages(want, without);
        }
        Set<String> calls = new TreeSet<>(got.keySet());
        calls.addAll(want.keySet());
        for (String call : calls) {
            if (!String.valueOf(got.get(call)).equals(String.valueOf(want.get(call)))) {
                fault(where, "after the run " + call + " answers " + got.get(call) + ", but without the calls that "
                    + "change nothing " + want.get(call));
            }
        }
    }

    private static void check(Test test) {
        String where = test.section + " (" + test.sentence + "), " + test.shows;
        for (List<Call> run : test.runs) {
            Played played = play(where, run, true);
            if (run.stream().anyMatch(Call::idle)) {
                idleCallsChangeNothing(where, run, played);
            }
            if (played.calls > MOST_CALLS || run.isEmpty()) {
                fault(where, played.calls + " calls on one object, where the document promises 512");
            }
        }
    }

    private static String between(String text, String start, String end) {
        int from = text.indexOf(start);
        int to = from < 0 ? -1 : text.indexOf(end, from + start.length());
        return from < 0 ? "" : text.substring(from, to < 0 ? text.length() : to);
    }

    /** The part of the document that a section's name stands for; the terms are numbered inside theirs. */
    private static String partOf(String document, String section) {
        if (section.startsWith("Terms ")) {
            int number = Integer.parseInt(section.substring(6));
            return between(between(document, "\n## Terms\n", "\n## "), "\n" + number + ". ", "\n" + (number + 1) + ". ");
        }
        return between(document, "\n## " + section + (section.startsWith("Promise ") ? ":" : "\n"), "\n## ");
    }

    private static void sentencesAreTheDocuments(List<Test> tests) throws IOException {
        String document = Files.readString(DOCUMENT);
        Set<String> names = new TreeSet<>();
        for (Test test : tests) {
            if (!partOf(document, test.section).contains(test.sentence)) {
                fault(test.section, "the document does not say there: " + test.sentence);
            }
            if (!names.add(test.section + test.sentence + test.shows)) {
                fault(test.section, "told twice: " + test.sentence + ", " + test.shows);
            }
        }
        for (int promise = 1; promise <= PROMISES; promise++) {
            eachSentenceHasATest(document, "Promise " + promise, tests);
        }
        for (int term = 1; term <= TERMS; term++) {
            eachSentenceHasATest(document, "Terms " + term, tests);
        }
    }

    /** The sentences of a section, without its heading and the call that stands in front of a promise. */
    private static List<String> sentencesOf(String part) {
        List<String> found = new ArrayList<>();
        for (String line : part.split("\n")) {
            String text = line.replaceFirst("^(## .*|```.*|\\d+\\. |`[^`]*`: )", "").trim();
            for (String sentence : text.split("(?<=\\w\\.|\\)\\.|\\.\\))\\s+")) {
                if (!sentence.isEmpty()) {
                    found.add(sentence);
                }
            }
        }
        return found;
    }

    /** Each sentence has at least one test that quotes it, whole or in part. */
    private static void eachSentenceHasATest(String document, String section, List<Test> tests) {
        String part = partOf(document, section);
        List<String> sentences = sentencesOf(part);
        if (sentences.isEmpty()) {
            fault(section, "the document has no such section");
        }
        for (String sentence : sentences) {
            if (tests.stream().noneMatch(t -> t.section.equals(section) && overlap(part, sentence, t.sentence))) {
                fault(section, "no test quotes anything of: " + sentence);
            }
        }
    }

    private static boolean overlap(String part, String a, String b) {
        int atA = part.indexOf(a);
        int atB = part.indexOf(b);
        return atA >= 0 && atB >= 0 && atA < atB + b.length() && atB < atA + a.length();
    }

    public static void main(String[] args) throws IOException {
        if (SumsThatTell.NONE != -1) {
            fault("Terms (The constants: `NONE = -1`)", "NONE is " + SumsThatTell.NONE);
        }
        List<Test> tests = readTests();
        sentencesAreTheDocuments(tests);
        for (Test test : tests) {
            check(test);
        }
        System.out.println(tests.size() + " tests of sentences, " + wrong + " faults");
        if (wrong != 0) {
            System.exit(1);
        }
    }
}
