import java.io.IOException;
import java.nio.file.Files;
import java.nio.file.Path;
import java.util.LinkedHashMap;
import java.util.Map;
import java.util.regex.Matcher;
import java.util.regex.Pattern;

/**
 * The document's sentences, as the edge tests quote them: each quote must stand in its section, and at the end no
 * sentence of the terms and promises may be left without a quote. Where the document isn't at hand, nothing is asked.
 */
final class Doc {
    private static final Path FILE = Path.of("../shared/DOC.md");
    private static final Pattern HEAD = Pattern.compile("(?m)^## (.*)$");
    private static final Map<String, String> TEXTS = new LinkedHashMap<>();
    private static final Map<String, boolean[]> QUOTED = new LinkedHashMap<>();

    private Doc() {
    }

    static void read() throws IOException {
        if (!Files.exists(FILE)) {
            System.out.println("no " + FILE + ": quotes are not compared with it");
            return;
        }
        String all = Files.readString(FILE);
        Matcher head = HEAD.matcher(all);
        String name = "";
        int from = 0;
        while (head.find()) {
            keep(name, all.substring(from, head.start()));
            name = head.group(1).replaceAll(":.*", "");
            from = head.end();
        }
        keep(name, all.substring(from));
    }

    private static void keep(String name, String text) {
        if (name.equals("Terms") || name.startsWith("Promise ")) {
            String plain = text.replaceAll("```text|```", " ").replaceAll("\\A\\s*`[^`]*`:", "").replaceAll("\\s+", " ").trim();
            TEXTS.put(name, plain);
            QUOTED.put(name, new boolean[plain.length()]);
        }
    }

    /** What follows tests this sentence, or part of one, of a section. */
    static void says(String section, String quote) {
        Check.within(section + " \"" + quote + "\"");
        String text = TEXTS.get(section);
        if (text == null) {
            return;
        }
        int at = text.indexOf(quote);
        Check.dueText("the document's " + section, at < 0 ? "without: " + quote : "", "");
        while (at >= 0) {
            for (int i = at; i < at + quote.length(); i++) {
                QUOTED.get(section)[i] = true;
            }
            at = text.indexOf(quote, at + 1);
        }
    }

    static void promise(int number, String quote) {
        says("Promise " + number, quote);
    }

    static void terms(String quote) {
        says("Terms", quote);
    }

    /** Every letter and digit of the terms and promises must stand within a quote. */
    static void finish() {
        for (Map.Entry<String, String> section : TEXTS.entrySet()) {
            StringBuilder left = new StringBuilder();
            boolean[] quoted = QUOTED.get(section.getKey());
            for (int i = 0; i < quoted.length; i++) {
                char c = section.getValue().charAt(i);
                if (!quoted[i]) {
                    left.append(c);
                } else if (left.length() > 0 && left.charAt(left.length() - 1) != '|') {
                    left.append('|');
                }
            }
            boolean some = left.toString().matches("(?s).*[A-Za-z0-9].*");
            Check.dueText("what no edge test quotes of " + section.getKey(), some ? left.toString() : "", "");
        }
    }
}
