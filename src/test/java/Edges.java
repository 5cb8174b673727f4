import java.io.IOException;
import java.nio.file.Files;
import java.nio.file.Path;
import java.util.BitSet;
import java.util.LinkedHashMap;
import java.util.Map;
import java.util.function.Function;
import java.util.function.Supplier;
import java.util.function.ToIntFunction;

/**
 * Ties each edge test to the words of the document that it is about: the words must stand in the section that is
 * named, once, and at the end no word of the sections may be left without a test.
 */
final class Edges {
    private static final Path DOCUMENT = Path.of("../shared/DOC.md");
    private static final int MOST_UNDONE = 6;
    private final Checks checks = new Checks("EdgesTest");
    private final Map<String, String> sections = new LinkedHashMap<>();
    private final Map<String, BitSet> quoted = new LinkedHashMap<>();
    /** The answers that are due stand here in full; without the document only the words can't be looked up. */
    private final boolean hasDocument = Files.exists(DOCUMENT);
    private String about = "";

    Edges() throws IOException {
        if (!hasDocument) {
            System.out.println("EdgesTest: no " + DOCUMENT + ", so its words are not looked up");
            return;
        }
        for (String part : Files.readString(DOCUMENT).split("\n## ")) {
            String[] headAndBody = part.split("\n", 2);
            String head = headAndBody[0].replaceAll(":.*", "");
            if (headAndBody.length == 2 && head.matches("What it is|Terms|Promise \\d+")) {
                sections.put(head, plain(head, headAndBody[1]));
                quoted.put(head, new BitSet());
            }
        }
        checks.due("sections of the document", sections.size(), 19);
    }

    /** One line without the marks; of "What it is" only what comes behind the outline. */
    private static String plain(String head, String body) {
        String text = body.replaceAll("(?m)^Ahead of the calls.*$", "").replaceAll("```(text)?", " ")
            .replaceAll("(?m)^`[^`]*`:", " ").replaceAll("\\s+", " ").trim();
        int behind = head.equals("What it is") ? Math.max(0, text.indexOf("========")) : 0;
        return text.substring(behind).replace("======== ", "").trim();
    }

    /** What comes next is about these words of the document. */
    void of(String section, String words) {
        about = section + ", \"" + words + "\"";
        if (!hasDocument) {
            return;
        }
        String text = sections.getOrDefault(section, "");
        int at = text.indexOf(words);
        checks.due(about + " stands once in the document", at >= 0 && text.indexOf(words, at + 1) < 0 ? 1 : 0, 1);
        if (at >= 0) {
            quoted.get(section).set(at, at + words.length());
        }
    }

    void ofTerms(String words) {
        of("Terms", words);
    }

    void due(String what, long got, long want) {
        checks.due(about + ": " + what, got, want);
    }

    void due(String what, String got, String want) {
        checks.due(about + ": " + what, got, want);
    }

    /** The call answers so, and an object of the same making that is spared it goes on just alike. */
    void leaves(String what, Supplier<RoofCourses> making, ToIntFunction<RoofCourses> call, int want) {
        due(what, call.applyAsInt(making.get()), want);
        for (int times = 0; times <= MOST_UNDONE + 1; times++) {
            int undone = times;
            alike(what + ", " + times + " undone", making, call, roof -> undo(roof, undone));
        }
        alike(what + ", laid anew", making, call, roof -> "lay " + roof.lay());
    }

    private static String undo(RoofCourses roof, int times) {
        StringBuilder row = new StringBuilder();
        for (int k = 0; k < times; k++) {
            row.append("undo ").append(roof.undo()).append(' ');
        }
        return row.toString();
    }

    /** Of new objects each time: to go on with two would take more than the 512 calls for which all is promised. */
    private void alike(String what, Supplier<RoofCourses> making, ToIntFunction<RoofCourses> call,
            Function<RoofCourses, String> later) {
        RoofCourses spared = making.get();
        RoofCourses called = making.get();
        call.applyAsInt(called);
        String got = later.apply(called) + allOf(called);
        due(what + ", everything as if the call had not been", got, later.apply(spared) + allOf(spared));
    }

    private static String allOf(RoofCourses roof) {
        return " fault " + roof.fault() + " next " + roof.next(0) + " " + roof.next(1) + " " + Checks.all(roof);
    }

    void end() {
        for (Map.Entry<String, String> section : sections.entrySet()) {
            String text = section.getValue();
            StringBuilder bare = new StringBuilder();
            for (int k = 0; k < text.length(); k++) {
                bare.append(quoted.get(section.getKey()).get(k) ? ' ' : text.charAt(k));
            }
            String left = bare.toString().replaceAll("[\\s,;:.]+", " ").trim();
            checks.due(section.getKey() + ", words without a test", left, "");
        }
        checks.end();
    }
}
