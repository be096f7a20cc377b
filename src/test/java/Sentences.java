import java.util.LinkedHashSet;
import java.util.List;
import java.util.Set;

/** The sentences of the document. Each is to have a test of its own, or to be told to name no boundary. */
final class Sentences {
    private record Sentence(String heading, String words) { }

    private final Checks checks;
    private final Set<Sentence> all = new LinkedHashSet<>();
    private final Set<Sentence> left = new LinkedHashSet<>();
    private String heading = "";

    Sentences(Checks checks, String document) {
        this.checks = checks;
        String part = "";
        StringBuilder paragraph = new StringBuilder();
        for (String line : (document + "\n\n").split("\n", -1)) {
            boolean isNew = line.isBlank() || line.startsWith("#") || line.startsWith("- ");
            if (isNew) {
                keep(part, paragraph.toString().trim());
                paragraph.setLength(0);
            }
            if (line.startsWith("## ")) {
                part = line.substring(3);
            } else if (!line.startsWith("#")) {
                paragraph.append(line).append(' ');
            }
        }
        left.addAll(all);
    }

    private void keep(String part, String paragraph) {
        // A promise begins with its signature; FaceTest looks at that.
        String words = paragraph.replaceFirst("^`[^`]*`: ", "");
        for (String sentence : words.split("(?<=[.)])\\s+(?=[A-Z(])")) {
            if (!sentence.isBlank()) {
                all.add(new Sentence(part, sentence));
            }
        }
    }

    /** The sentences that follow stand under the heading that begins so. */
    void under(String start) {
        List<String> fitting = all.stream().map(Sentence::heading).distinct()
            .filter(part -> (part + ":").startsWith(start + ":")).toList();
        checks.place("");
        checks.due("headings '" + start + "'", fitting.size(), 1);
        heading = fitting.isEmpty() ? "" : fitting.get(0);
    }

    /** Tests the sentence of the heading that begins so; the test asks something, and throws nothing. */
    void test(String start, Runnable test) {
        String words = take(start);
        checks.place(heading + " | " + words + "\n    ");
        int before = checks.asked();
        try {
            test.run();
        } catch (RuntimeException e) {
            checks.due("a call that is to answer", e.toString(), "an answer");
        }
        checks.due("the test asks something", checks.asked() > before, true);
    }

    void namesNoBoundary(String start) {
        take(start);
    }

    private String take(String start) {
        List<Sentence> fitting = all.stream().filter(s -> s.heading().equals(heading) && s.words().equals(start)).toList();
        if (fitting.isEmpty()) {
            fitting = all.stream().filter(s -> s.heading().equals(heading) && s.words().startsWith(start)).toList();
        }
        checks.place("");
        checks.due("sentences '" + start + "' under " + heading, fitting.size(), 1);
        fitting.forEach(s -> checks.due("the sentence '" + start + "' is taken once", left.remove(s), true));
        return fitting.isEmpty() ? start : fitting.get(0).words();
    }

    void end() {
        checks.place("");
        for (Sentence sentence : left) {
            checks.due("a test of: " + sentence.heading() + " | " + sentence.words(), "none", "one");
        }
    }
}
