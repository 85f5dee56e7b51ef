import java.io.IOException;
import java.lang.reflect.Method;
import java.nio.file.Files;
import java.nio.file.Path;
import java.util.ArrayList;
import java.util.LinkedHashMap;
import java.util.List;
import java.util.Map;

/**
 * Each sentence that a test is marked with stands in the document under its heading, and no sentence of
 * the document's terms and promises is without a test.
 */
public final class DocumentTest {
    private static final Path DOCUMENT = Path.of("../shared/DOC.md");
    private static final List<Class<? extends SentenceTests>> TESTS = List.of(WhatItIsTest.class,
            NumbersTest.class, TermsTest.class, EnclosuresTest.class, RunsTest.class, RefusalsTest.class, PromisesTest.class);
    /** FaceTest has the one, and of the other nothing is promised. */
    private static final List<String> WITHOUT_SENTENCES = List.of("The public face", "Not promised");

    private static int wrong = 0;

    public static void main(String[] args) throws IOException {
        if (!Files.isReadable(DOCUMENT)) {
            System.out.println("there is no " + DOCUMENT + " to compare with");
            return;
        }
        Map<String, String> sections = sections(Files.readString(DOCUMENT));
        Map<String, List<String>> tested = new LinkedHashMap<>();
        int sentences = 0;
        for (Class<? extends SentenceTests> tests : TESTS) {
            for (Method test : SentenceTests.sentencesOf(tests)) {
                SentenceTests.Sentence sentence = test.getAnnotation(SentenceTests.Sentence.class);
                sentences++;
                tested.computeIfAbsent(sentence.in(), in -> new ArrayList<>()).add(sentence.says());
                if (!sections.getOrDefault(sentence.in(), "").contains(sentence.says())) {
                    fault(test.getName() + ": not under " + sentence.in() + ": " + sentence.says());
                }
            }
        }
        for (Map.Entry<String, String> section : sections.entrySet()) {
            if (!WITHOUT_SENTENCES.contains(section.getKey())) {
                findUntested(section.getKey(), section.getValue(), tested.getOrDefault(section.getKey(), List.of()));
            }
        }
        System.out.println(wrong == 0 ? sentences + " tests have all sentences of the document" : wrong + " sentences are wrong");
        if (wrong != 0) {
            System.exit(1);
        }
    }

    private static void fault(String what) {
        wrong++;
        System.out.println(what);
    }

    /** The text under each heading, as far as the heading's colon, without marks of layout and without signatures. */
    private static Map<String, String> sections(String document) {
        Map<String, String> found = new LinkedHashMap<>();
        for (String section : document.split("(?m)^## ")) {
            int line = section.indexOf('\n');
            if (section.startsWith("# ") || line < 0) {
                continue;
            }
            String heading = section.substring(0, line).replaceAll(":.*", "").trim();
            String text = section.substring(line)
                    .replaceAll("(?m)^```.*$", " ")
                    .replaceAll("(?m)^`[^`]*`:", " ")
                    .replace("========", " ")
                    .replaceAll("\\s+", " ");
            found.put(heading, text.trim());
        }
        return found;
    }

    private static void findUntested(String heading, String text, List<String> tested) {
        boolean[] covered = new boolean[text.length()];
        for (String sentence : tested) {
            for (int at = text.indexOf(sentence); at >= 0; at = text.indexOf(sentence, at + 1)) {
                for (int i = 0; i < sentence.length(); i++) {
                    covered[at + i] = true;
                }
            }
        }
        StringBuilder rest = new StringBuilder();
        for (int i = 0; i < text.length(); i++) {
            if (!covered[i]) {
                rest.append(text.charAt(i));
            } else if (!rest.toString().isBlank()) {
                fault("no test of, under " + heading + ": " + rest.toString().trim());
                rest.setLength(0);
            } else {
                rest.setLength(0);
            }
        }
        if (!rest.toString().isBlank()) {
            fault("no test of, under " + heading + ": " + rest.toString().trim());
        }
    }
}
