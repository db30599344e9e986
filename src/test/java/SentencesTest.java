import java.io.IOException;
import java.nio.file.Files;
import java.nio.file.Path;
import java.util.ArrayList;
import java.util.Arrays;
import java.util.BitSet;
import java.util.List;
import java.util.Map;
import java.util.TreeMap;
import java.util.regex.Matcher;
import java.util.regex.Pattern;
import java.util.stream.Collectors;
import java.util.stream.Stream;

/**
 * A test of its own for each sentence of the document: src/test/runs holds them, a heading that quotes the
 * sentence and a run of calls on a new object with the answers that are due. The literal Model is asked the same,
 * so that what is due was not only thought up; and each sentence of ../shared/DOC.md is to be quoted by some run.
 */
public final class SentencesTest {
    private static final Check CHECK = new Check("SentencesTest");
    private static final Path RUNS = Path.of("src/test/runs");
    private static final Path DOCUMENT = Path.of("../shared/DOC.md");
    private static final int CALLS = 512;
    private static final Pattern HEADING = Pattern.compile("\\[(\\w+)\\] (.+)");
    private static final Pattern CALL = Pattern.compile("(\\w+)(?:\\((.*?)\\))?(?: = (.+))?");

    private final String where;
    private final Calls calls = new Calls();

    private SentencesTest(String where) {
        this.where = where;
    }

    public static void main(String[] args) throws IOException {
        Map<String, List<String>> quotes = new TreeMap<>();
        List<Path> files;
        try (Stream<Path> found = Files.list(RUNS)) {
            files = found.sorted().collect(Collectors.toList());
        }
        for (Path file : files) {
            runsOf(file, quotes);
        }
        everySentenceIsQuoted(quotes);
        CHECK.end();
    }

    /** Runs stand apart by empty lines: headings first, a long one goes on in lines that begin with two spaces. */
    private static void runsOf(Path file, Map<String, List<String>> quotes) throws IOException {
        SentencesTest run = null;
        String number = null;
        StringBuilder quote = new StringBuilder();
        List<String> lines = new ArrayList<>(Files.readAllLines(file));
        lines.add("");
        for (int i = 0; i < lines.size(); i++) {
            String line = lines.get(i);
            Matcher heading = HEADING.matcher(line);
            boolean goesOn = line.startsWith("  ");
            if (goesOn) {
                quote.append(' ').append(line.trim());
                continue;
            }
            if (quote.length() > 0) {
                quotes.computeIfAbsent(number, n -> new ArrayList<>()).add(quote.toString());
                quote.setLength(0);
            }
            if (heading.matches()) {
                number = heading.group(1);
                quote.append(heading.group(2).trim());
                run = run == null ? new SentencesTest(number + ": " + file.getFileName() + ":" + (i + 1)) : run;
            } else if (line.isEmpty()) {
                CHECK.due(file.getFileName() + ":" + (i + 1) + " ends a run", run == null || run.calls.made > 0, true);
                run = null;
            } else if (run == null) {
                CHECK.due(file.getFileName() + ":" + (i + 1) + " stands under a heading", false, true);
            } else if (!line.startsWith("//")) {
                run.line(line);
            }
        }
    }

    // ---- one run ----

    private void line(String line) {
        Matcher matcher = CALL.matcher(line);
        if (!matcher.matches()) {
            CHECK.due(where + ": a call's form: " + line, false, true);
            return;
        }
        String name = matcher.group(1);
        String[] due = matcher.group(3) == null ? new String[0] : matcher.group(3).trim().split("\\s+");
        if (name.equals("calls")) {
            CHECK.due(where + ": calls so far", calls.made, Long.parseLong(due[0]));
        } else if (name.equals("held")) {
            // layers made, rows made, layers held, rows held
            for (int what = 0; what < 4; what++) {
                one("made", new long[] {what}, due.length == 4 ? due[what] : "four numbers");
            }
        } else {
            several(name, matcher.group(2) == null ? "" : matcher.group(2), due);
        }
    }

    /** Calls of each choice in {..}, the last ones first; one answer for all of them, or one for each. */
    private void several(String name, String arguments, String[] due) {
        List<long[]> all = new ArrayList<>();
        all.add(new long[0]);
        for (String argument : arguments.isEmpty() ? new String[0] : arguments.split(",(?![^{]*\\})")) {
            List<long[]> longer = new ArrayList<>();
            for (long[] before : all) {
                for (long choice : choices(argument.trim())) {
                    long[] with = Arrays.copyOf(before, before.length + 1);
                    with[before.length] = choice;
                    longer.add(with);
                }
            }
            all = longer;
        }
        if (due.length > 1) {
            CHECK.due(where + ": answers told of " + name + "(" + arguments + ")", due.length, all.size());
        }
        for (int i = 0; i < all.size(); i++) {
            one(name, all.get(i), due.length == 0 ? "" : due[due.length == 1 ? 0 : i % due.length]);
        }
    }

    private static List<Long> choices(String told) {
        List<Long> choices = new ArrayList<>();
        String inner = told.startsWith("{") ? told.substring(1, told.length() - 1) : told;
        for (String one : inner.split(",")) {
            String[] ends = one.trim().split("\\.\\.");
            long last = number(ends[ends.length - 1]);
            for (long n = number(ends[0]); n <= last; n++) {
                choices.add(n);
            }
        }
        return choices;
    }

    private static long number(String told) {
        switch (told) {
            case "MAX": return Integer.MAX_VALUE;
            case "MIN": return Integer.MIN_VALUE;
            case "NONE": return -1;
            case "true": return 1;
            case "false": return 0;
            case "throws": return Calls.THROWS;
            default: return Long.parseLong(told);
        }
    }

    private void one(String name, long[] arguments, String due) {
        if (name.equals("open")) {
            open(arguments);
        } else if (name.equals("kinds")) {
            for (int n = 0; n < arguments[0]; n++) {
                one("kind", new long[] {1, 1, 0, 1, 0}, "");
            }
        } else {
            ask(name, arguments, due);
        }
    }

    /** open(y, layers, rows, length): as many layers of as many rows of open cells. */
    private void open(long[] told) {
        for (long z = 0; z < told[1]; z++) {
            ask("layer", new long[] {told[0], z}, "true");
            for (long x = 0; x < told[2]; x++) {
                ask("row", new long[] {told[0], z, x, told[3]}, "0");
            }
        }
    }

    private void ask(String name, long[] arguments, String due) {
        String call = where + ": " + name + Arrays.toString(arguments);
        long got = calls.ofYard(name, arguments);
        CHECK.due(call + " as the model", got, calls.ofModel(name, arguments));
        if (!due.isEmpty()) {
            CHECK.due(call, got, number(due));
        }
        CHECK.due(call + " is not after the 512th", calls.made <= CALLS, true);
    }

    // ---- what the document says ----

    /** The document's texts by their numbers: 0 of what it is, T1 to T4 of the terms, 1 to 39 of the promises. */
    private static Map<String, String> texts(String document) {
        Map<String, String> texts = new TreeMap<>();
        int first = document.indexOf("An object is used for");
        texts.put("0", plain(document.substring(first, document.indexOf('\n', first))));
        String terms = document.substring(document.indexOf("## Terms"), document.indexOf("All memory is"));
        Matcher term = Pattern.compile("==== (\\d)\\. (.*?)(?===== |\\z)", Pattern.DOTALL).matcher(terms);
        while (term.find()) {
            texts.put("T" + term.group(1), plain(term.group(2)).replaceFirst("^[A-Z ]+\\. ", ""));
        }
        String promises = document.substring(document.indexOf("## Promise 1:"), document.indexOf("## Not promised"));
        Matcher promise = Pattern.compile("## Promise (\\d+): \\w[^\n]*\n\\s*`[^`]*`: (.*?)(?=## |\\z)", Pattern.DOTALL)
                .matcher(promises);
        while (promise.find()) {
            texts.put(promise.group(1), plain(promise.group(2)));
        }
        return texts;
    }

    private static String plain(String text) {
        return text.replace("```text", " ").replace("```", " ").replaceAll("\\s+", " ").trim();
    }

    private static void everySentenceIsQuoted(Map<String, List<String>> quotes) throws IOException {
        Map<String, String> texts = texts(Files.readString(DOCUMENT));
        CHECK.due("terms and promises found in the document", texts.size(), 1 + 4 + 39);
        for (Map.Entry<String, String> text : texts.entrySet()) {
            BitSet told = new BitSet();
            for (String quote : quotes.getOrDefault(text.getKey(), List.of())) {
                int at = text.getValue().indexOf(plain(quote));
                CHECK.due(text.getKey() + ": the document says: " + quote, at >= 0, true);
                if (at >= 0) {
                    told.set(at, at + plain(quote).length());
                }
            }
            untold(text.getKey(), text.getValue(), told);
        }
        for (String number : quotes.keySet()) {
            CHECK.due("a promise or term is numbered " + number, texts.containsKey(number), true);
        }
    }

    private static void untold(String number, String text, BitSet told) {
        StringBuilder left = new StringBuilder();
        for (int i = 0; i < text.length(); i++) {
            if (!told.get(i)) {
                left.append(text.charAt(i));
            }
        }
        String words = left.toString().replaceAll("[^A-Za-z0-9]+", " ").trim();
        CHECK.due(number + ": is in no run's heading: " + words, words.isEmpty(), true);
    }
}
