import java.io.IOException;
import java.nio.file.Files;
import java.nio.file.Path;
import java.util.ArrayList;
import java.util.LinkedHashMap;
import java.util.LinkedHashSet;
import java.util.List;
import java.util.Map;
import java.util.Set;
import java.util.function.IntSupplier;

/**
 * Answers that are due by a sentence of the document, which is named by its first words: these must
 * begin one sentence alone, and of what a test speaks for every sentence must be named.
 */
final class Sentences {
    private static final Path DOCUMENT = Path.of("../shared/DOC.md");
    private static final String BOOK = "What it is";
    private static final String TERMS = "Terms ";
    private static final String PART = "======== ";

    private final Checks checks = new Checks();
    private final Map<String, List<String>> chapters = new LinkedHashMap<>();
    private final Set<String> left = new LinkedHashSet<>();
    private String named = "";

    /** A test of all sentences of the promises from the first one to the last one. */
    static Sentences ofPromises(int first, int last) {
        Sentences made = new Sentences();
        for (int promise = first; promise <= last; promise++) {
            made.speakFor("Promise " + promise);
        }
        return made;
    }

    /** A test of all sentences of a part (1 to 3) of the terms; what a book is belongs to the first one. */
    static Sentences ofTerms(int part) {
        Sentences made = new Sentences();
        made.speakFor(TERMS + part);
        if (part == 1) {
            made.speakFor(BOOK);
        }
        return made;
    }

    private Sentences() {
        Map<String, StringBuilder> texts = new LinkedHashMap<>();
        String chapter = "";
        for (String line : linesOfDocument()) {
            chapter = chapterOf(line, chapter);
            if (!line.startsWith("#") && !line.startsWith("```") && !line.startsWith("Ahead of the calls")) {
                texts.computeIfAbsent(chapter, key -> new StringBuilder()).append(line.strip()).append(' ');
            }
        }
        texts.forEach((key, text) -> chapters.put(key, split(toldOnly(text.toString()))));
    }

    private static List<String> linesOfDocument() {
        try {
            return Files.readAllLines(DOCUMENT);
        } catch (IOException gone) {
            throw new IllegalStateException("no document at " + DOCUMENT.toAbsolutePath(), gone);
        }
    }

    private static String chapterOf(String line, String before) {
        if (line.startsWith(PART)) {
            return TERMS + line.charAt(PART.length());
        }
        if (!line.startsWith("## ")) {
            return before;
        }
        String heading = line.substring("## ".length()).replaceAll(":.*", "");
        return heading.equals(TERMS.strip()) ? TERMS + 1 : heading;
    }

    /** Without the face of a call, and without what stands ahead of a part. */
    private static String toldOnly(String text) {
        return text.replaceFirst("^ *`[^`]*`: ", "").replaceFirst("^.*" + PART + "\\d ", "");
    }

    /** At each "." and ";" that neither stands in brackets nor in quotes. */
    private static List<String> split(String text) {
        List<String> found = new ArrayList<>();
        int depth = 0;
        int begun = 0;
        boolean quoted = false;
        for (int at = 0; at < text.length(); at++) {
            char sign = text.charAt(at);
            quoted ^= sign == '"';
            depth += sign == '(' ? 1 : sign == ')' ? -1 : 0;
            if (depth == 0 && !quoted && (sign == '.' || sign == ';')) {
                found.add(text.substring(begun, at).strip());
                begun = at + 1;
            }
        }
        return found;
    }

    private void speakFor(String chapter) {
        if (sentencesOf(chapter).isEmpty()) {
            throw new IllegalStateException("no sentences in " + chapter);
        }
        left.addAll(sentencesOf(chapter).stream().map(sentence -> chapter + ": " + sentence).toList());
    }

    private List<String> sentencesOf(String chapter) {
        return chapters.getOrDefault(chapter, List.of());
    }

    /** What is asked next is due by a sentence of a promise. */
    void promise(int promise, String words) {
        name(promise, List.of("Promise " + promise), words);
    }

    /** What is asked next is due by a sentence that no promise says, seen by the call of a promise. */
    void term(int promise, String words) {
        name(promise, List.of(BOOK, TERMS + 1, TERMS + 2, TERMS + 3), words);
    }

    private void name(int promise, List<String> within, String words) {
        List<String> like = new ArrayList<>();
        List<String> same = new ArrayList<>();
        for (String chapter : within) {
            for (String sentence : sentencesOf(chapter)) {
                if (sentence.equals(words)) {
                    same.add(chapter + ": " + sentence);
                } else if (sentence.startsWith(words)) {
                    like.add(chapter + ": " + sentence);
                }
            }
        }
        List<String> found = same.isEmpty() ? like : same;
        if (found.size() != 1) {
            throw new IllegalStateException(found.size() + " sentences of " + within + " begin: " + words);
        }
        left.remove(found.get(0));
        named = "promise " + promise + ", by " + found.get(0) + ": ";
    }

    void due(String call, long got, long want) {
        checks.due(named + call, got, want);
    }

    void refused(SignBook book, String call, IntSupplier asked, int want) {
        checks.refused(book, named + call, asked, want);
    }

    void slot(SignBook book, int slot, String want) {
        String got = Checks.signs(book, slot);
        due("slot " + slot + " is " + got + " and not " + want, got.equals(want) ? 1 : 0, 1);
    }

    void end() {
        named = "";
        for (String sentence : left) {
            due("tests of " + sentence, 0, 1);
        }
        checks.end();
    }
}
