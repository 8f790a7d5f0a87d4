import java.io.IOException;
import java.nio.file.Files;
import java.nio.file.Path;
import java.util.LinkedHashMap;
import java.util.List;
import java.util.Map;

/**
 * Whether the boundary tests stand by the document: each quotes words of the section that it names,
 * and no clause from its first line to the last promise is without a test.
 */
final class EdgesQuotedTest {
    private static final Path DOCUMENT = Path.of("../shared/DOC.md");
    /** Its title, and what it leaves free: there no test could fail. */
    private static final List<String> WITHOUT_CLAUSES = List.of("# HerdMasters", "Not promised");
    private static final List<Edges> ALL = List.of(
        EdgesOfWholeTest.EDGES, EdgesOfMastersTest.EDGES, EdgesOfChangeTest.EDGES, EdgesOfOrderTest.EDGES,
        EdgesOfSchedulerTest.EDGES, EdgesOfPlacingTest.EDGES, EdgesOfAskingTest.EDGES);

    public static void main(String[] args) throws IOException {
        if (!Files.exists(DOCUMENT)) {
            System.out.println("  no document at " + DOCUMENT + ": what is quoted was not compared");
            return;
        }
        Map<String, String> sections = sections(Files.readString(DOCUMENT));
        Map<String, boolean[]> quoted = new LinkedHashMap<>();
        for (Map.Entry<String, String> section : sections.entrySet()) {
            quoted.put(section.getKey(), new boolean[section.getValue().length()]);
        }
        for (Edges edges : ALL) {
            for (Edges.Edge edge : edges.all()) {
                quote(edge, sections, quoted);
            }
        }
        for (String title : sections.keySet()) {
            if (!WITHOUT_CLAUSES.contains(title)) {
                everyClauseIsQuoted(title, sections.get(title), quoted.get(title));
            }
        }
        Due.end();
    }

    /** The text of each section by its title, without marks of form, with one space for each row of blanks. */
    private static Map<String, String> sections(String document) {
        Map<String, String> sections = new LinkedHashMap<>();
        for (String part : document.split("(?m)^## ")) {
            int end = part.indexOf('\n');
            String text = part.substring(end + 1).replaceAll("```\\w*", " ");
            sections.put(part.substring(0, end).trim(), text.replaceAll("\\s+", " ").trim());
        }
        return sections;
    }

    private static void quote(Edges.Edge edge, Map<String, String> sections, Map<String, boolean[]> quoted) {
        String text = sections.getOrDefault(edge.section(), "");
        int at = text.indexOf(edge.sentence());
        Due.is("\"" + edge.sentence() + "\" stands in " + edge.section(), at >= 0, true);
        while (at >= 0) {
            for (int i = 0; i < edge.sentence().length(); i++) {
                quoted.get(edge.section())[at + i] = true;
            }
            at = text.indexOf(edge.sentence(), at + 1);
        }
    }

    /** Between what is quoted nothing is left but marks and the words that join it. */
    private static void everyClauseIsQuoted(String title, String text, boolean[] quoted) {
        StringBuilder rest = new StringBuilder();
        for (int i = 0; i < text.length(); i++) {
            rest.append(quoted[i] ? '|' : text.charAt(i));
        }
        for (String left : rest.toString().replaceFirst("^`.*?`:", "|").split("\\|+")) {
            boolean joins = left.replaceAll("\\b(and|Whether)\\b", "").matches("\\W*");
            Due.is(title + ": what has no test, \"" + left + "\", is nothing but joining words", joins, true);
        }
    }
}
