import java.nio.file.Files;
import java.nio.file.Path;
import java.util.ArrayList;
import java.util.Arrays;
import java.util.LinkedHashMap;
import java.util.List;
import java.util.Map;
import java.util.regex.Matcher;
import java.util.regex.Pattern;

/**
 * Runs src/test/sentences.txt: each sentence of the document with runs of calls on new objects.
 * Every refused call and every question on that page is tried a second time beside an object
 * that is spared it, so that it has to change nothing; and the page has to quote every sentence
 * of the document, but for those of "Not promised", which ask for nothing, and for the face, which
 * FaceTests reads out of the document.
 *
 * The page: '## ' begins a section, named as in the document; '> ' quotes it; 'new' begins a new
 * object, as each quote does; 'by X' says that test X holds the sentence; '#' begins a remark;
 * other lines are calls, 'name numbers = answer', with ';' between them. A call without an
 * answer may not be refused.
 */
public final class SentenceTests {
    private static final Path PAGE = Path.of("src/test/sentences.txt");
    private static final Path DOCUMENT = Path.of("../shared/DOC.md");
    private static final int MOST_CALLS = 512;
    private static final int MOST_RUN = MOST_CALLS / 2;
    private static final int MARKS = 8;
    private static final int SHADES = 6;
    private static final List<String> QUESTIONS = List.of("of", "told", "quarrel", "layings", "laying", "place",
        "rivals", "order", "known", "changes", "breaks", "inverted", "span", "unseen", "many");
    private static final Map<String, Integer> WORDS = Map.ofEntries(Map.entry("NUMBER", -1), Map.entry("FULL", -2),
        Map.entry("TWICE", -3), Map.entry("NONE", -4), Map.entry("APART", -5), Map.entry("RIVALS", -6),
        Map.entry("HUGE", Integer.MAX_VALUE), Map.entry("DEEP", Integer.MIN_VALUE), Map.entry("true", 1),
        Map.entry("false", 0));

    private record Call(int line, String name, int[] numbers, Integer due) {
        @Override
        public String toString() {
            StringBuilder s = new StringBuilder(name);
            for (int n : numbers) {
                s.append(' ').append(n);
            }
            return s.toString();
        }

        boolean isRefused(int got) {
            return name.equals("of") ? got == -1000 : got < 0;
        }
    }

    private static int wrong = 0;
    private static int runs = 0;
    private static int calls = 0;

    private static void fail(int line, String what) {
        wrong++;
        System.out.println(PAGE + ", line " + line + ": " + what);
    }

    private static int answer(StampSheet x, Call c) {
        int[] n = c.numbers;
        switch (c.name) {
            case "sheet": return x.sheet(n[0], n[1]);
            case "piece": return x.piece(n[0], n[1], n[2]);
            case "drop": return x.drop();
            case "mark": return x.mark(n[0], n[1], n[2]);
            case "like": return x.like(n[0], n[1]);
            case "letter": return x.letter(n[0], n[1], n[2]);
            case "wear": return x.wear(n[0], n[1]);
            case "dated": return x.dated(n[0], n[1], n[2]);
            case "out": return x.out(n[0], n[1] == 1);
            case "bar": return x.bar(n[0], n[1]);
            case "free": return x.free();
            case "keep": return x.keep();
            case "back": return x.back();
            default: return ask(x, c);
        }
    }

    private static int ask(StampSheet x, Call c) {
        int[] n = c.numbers;
        switch (c.name) {
            case "of": return x.of(n[0], n[1]);
            case "told": return x.told(n[0], n[1]);
            case "quarrel": return x.quarrel();
            case "layings": return x.layings();
            case "laying": return x.laying(n[0], n[1]);
            case "place": return x.place(n[0]);
            case "rivals": return x.rivals(n[0]);
            case "order": return x.order(n[0], n[1]);
            case "known": return x.known(n[0], n[1]);
            case "changes": return x.changes(n[0], n[1]);
            case "breaks": return x.breaks(n[0]);
            case "inverted": return x.inverted();
            case "span": return x.span(n[0], n[1]);
            case "unseen": return x.unseen(n[0]);
            case "many": return x.many(n[0]);
            default: throw new IllegalStateException("no call " + c.name);
        }
    }

    private static void run(List<Call> run) {
        if (run.size() > MOST_RUN) {
            fail(run.get(0).line, "the run leaves no calls to ask what has changed");
            return;
        }
        StampSheet x = new StampSheet();
        runs++;
        boolean asks = false;
        for (int i = 0; i < run.size(); i++) {
            Call c = run.get(i);
            int got = answer(x, c);
            calls++;
            asks |= c.due != null;
            if (c.due == null && c.isRefused(got)) {
                fail(c.line, c + " was refused with " + got);
            } else if (c.due != null && c.due != got) {
                fail(c.line, c + " answered " + got + ", due is " + c.due);
            }
            if (c.isRefused(got) || QUESTIONS.contains(c.name)) {
                changesNothing(run.subList(0, i), c);
            }
        }
        if (!asks) {
            fail(run.get(0).line, "the run has no answer that is due");
        }
    }

    private static StampSheet replay(List<Call> ahead) {
        StampSheet x = new StampSheet();
        for (Call c : ahead) {
            answer(x, c);
        }
        return x;
    }

    /** Holds an object that had the call against one that was spared it, by all that can be asked. */
    private static void changesNothing(List<Call> ahead, Call call) {
        List<Call> bars = barCalls(call.line);
        bars.add(new Call(call.line, "back", new int[0], null));
        int room = MOST_CALLS - ahead.size() - 1;
        List<Call> now = questions(replay(ahead), call.line);
        StampSheet keptOne = replay(ahead);
        keptOne.back();
        List<Call> kept = questions(keptOne, call.line);
        for (int from = 0; from < now.size(); from += room) {
            compare(ahead, call, now.subList(from, Math.min(now.size(), from + room)));
        }
        int roomBehind = room - bars.size();
        for (int from = 0; from < kept.size(); from += roomBehind) {
            List<Call> behind = new ArrayList<>(bars);
            behind.addAll(kept.subList(from, Math.min(kept.size(), from + roomBehind)));
            compare(ahead, call, behind);
        }
    }

    private static void compare(List<Call> ahead, Call call, List<Call> probes) {
        StampSheet spared = replay(ahead);
        StampSheet tried = replay(ahead);
        answer(tried, call);
        for (Call probe : probes) {
            int want = answer(spared, probe);
            int got = answer(tried, probe);
            if (got != want) {
                fail(call.line, call + " changed " + probe + " from " + want + " to " + got);
                return;
            }
        }
    }

    /** Tries to bring every bar, as bars can't be asked for: those that are there answer TWICE. */
    private static List<Call> barCalls(int line) {
        List<Call> all = new ArrayList<>();
        for (int mark = 0; mark < MARKS; mark++) {
            for (int other = 0; other < mark; other++) {
                all.add(new Call(line, "bar", new int[] {mark, other}, null));
            }
        }
        return all;
    }

    private static List<Call> questions(StampSheet sizes, int line) {
        int places = sizes.many(0);
        int pieces = sizes.many(1);
        int copies = sizes.many(2);
        int layings = sizes.layings();
        List<Call> all = new ArrayList<>();
        addAll(all, line, "many", 7);
        addAll(all, line, "told", pieces + 1, 6);
        addAll(all, line, "of", copies + 1, 16);
        addAll(all, line, "quarrel");
        addAll(all, line, "layings");
        addAll(all, line, "laying", Math.min(layings + 1, 5), pieces);
        for (int piece = 0; piece < pieces; piece++) {
            all.add(new Call(line, "laying", new int[] {layings - 1, piece}, null));
        }
        addAll(all, line, "place", copies);
        addAll(all, line, "rivals", copies);
        addAll(all, line, "order", places, Math.min(pieces + 1, 6));
        addAll(all, line, "known", places, MARKS);
        addAll(all, line, "changes", places, MARKS);
        addAll(all, line, "breaks", places);
        addAll(all, line, "inverted");
        addAll(all, line, "span", SHADES, 3);
        addAll(all, line, "unseen", 3);
        return all;
    }

    /** A call for all numbers below the bounds, of which there are as many as the call takes, two at most. */
    private static void addAll(List<Call> all, int line, String name, int... bounds) {
        int first = bounds.length > 0 ? bounds[0] : 1;
        int second = bounds.length > 1 ? bounds[1] : 1;
        for (int a = 0; a < first; a++) {
            for (int b = 0; b < second; b++) {
                all.add(new Call(line, name, Arrays.copyOf(new int[] {a, b}, bounds.length), null));
            }
        }
    }

    private static int number(String word) {
        Integer known = WORDS.get(word);
        return known != null ? known : Integer.parseInt(word);
    }

    private static Call call(String text, int line) {
        String[] sides = text.split("=");
        String[] words = sides[0].trim().split("\\s+");
        int[] numbers = new int[words.length - 1];
        for (int i = 0; i < numbers.length; i++) {
            numbers[i] = number(words[i + 1]);
        }
        return new Call(line, words[0], numbers, sides.length > 1 ? number(sides[1].trim()) : null);
    }

    /** The page: by section the sentences that it quotes. Runs are run as they are met. */
    private static Map<String, List<String>> readPage() throws java.io.IOException {
        Map<String, List<String>> quotes = new LinkedHashMap<>();
        List<String> section = new ArrayList<>();
        List<Call> run = new ArrayList<>();
        boolean held = true;
        int at = 0;
        List<String> lines = new ArrayList<>(Files.readAllLines(PAGE));
        lines.add("## ");
        for (String whole : lines) {
            String line = whole.trim();
            at++;
            boolean begins = line.startsWith("## ") || line.equals("##") || line.startsWith("> ") || line.equals("new");
            if (begins && !run.isEmpty()) {
                run(run);
                held = true;
                run = new ArrayList<>();
            }
            if (begins && !line.equals("new") && !held) {
                fail(at, "the sentence ahead has no run");
            }
            if (line.startsWith("##")) {
                section = quotes.computeIfAbsent(line.substring(2).trim(), name -> new ArrayList<>());
            } else if (line.startsWith("> ")) {
                section.add(line.substring(2));
                held = false;
            } else if (line.startsWith("by ")) {
                held = Files.exists(Path.of("src/test/java", line.substring(3) + ".java"));
            } else if (!line.isEmpty() && !line.startsWith("#") && !line.equals("new")) {
                for (String text : line.split(";")) {
                    run.add(call(text, at));
                }
            }
        }
        return quotes;
    }

    /** What the document's sections say, without fences and signatures. */
    private static Map<String, String> readDocument() throws java.io.IOException {
        Map<String, String> sections = new LinkedHashMap<>();
        Matcher m = Pattern.compile("(?ms)^## (.*?)$(.*?)(?=^## |\\z)").matcher(Files.readString(DOCUMENT));
        while (m.find()) {
            if (!m.group(1).equals("Not promised")) {
                String text = m.group(2).replaceAll("(?s)```java.*?```", "").replaceAll("(?m)^```.*$|^\\d\\. ", "")
                    .replaceAll("(?m)^`(int \\w+|StampSheet)\\(.*?\\)`: ", "");
                sections.put(m.group(1).trim(), text.replaceAll("\\s+", " ").trim());
            }
        }
        return sections;
    }

    private static void everySentenceIsQuoted(Map<String, List<String>> quotes) throws java.io.IOException {
        if (!Files.exists(DOCUMENT)) {
            System.out.println("there is no " + DOCUMENT + " to hold the sentences against");
            return;
        }
        for (Map.Entry<String, String> section : readDocument().entrySet()) {
            String left = section.getValue();
            for (String quote : quotes.getOrDefault(section.getKey(), List.of())) {
                if (!left.contains(quote)) {
                    fail(0, "'" + section.getKey() + "' doesn't say, or not once more: " + quote);
                }
                left = left.replaceFirst(Pattern.quote(quote), "");
            }
            if (!left.isBlank()) {
                fail(0, "of '" + section.getKey() + "' there is no test for: " + left.trim());
            }
        }
    }

    public static void main(String[] args) throws Exception {
        everySentenceIsQuoted(readPage());
        System.out.println(wrong == 0 ? runs + " runs of " + calls + " calls hold every sentence"
            : wrong + " things are not as due");
        if (wrong != 0) {
            System.exit(1);
        }
    }
}
