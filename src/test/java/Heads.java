import java.io.IOException;
import java.nio.file.Files;
import java.nio.file.Path;
import java.util.LinkedHashMap;
import java.util.Map;

/** The document's heads: each sentence that is tested stands under one, and no promise's head may stay without. */
final class Heads {
    private static final Path DOCUMENT = Path.of("../shared/DOC.md");
    private static final Map<String, Integer> ASKED = new LinkedHashMap<>();
    private static String head = "no head";

    private Heads() {
    }

    static void head(String name) {
        head = name;
    }

    static void due(String sentence, long got, long want) {
        ASKED.merge(head, 1, Integer::sum);
        Nets.due(head + ": " + sentence, got, want);
    }

    static void same(String sentence, String got, String want) {
        due(sentence, got.equals(want) ? 1 : 0, 1);
        if (!got.equals(want)) {
            System.out.println("  it is " + got + "\n  not    " + want);
        }
    }

    static void eachPromiseIsTested() throws IOException {
        int promises = 0;
        for (String line : Files.readAllLines(DOCUMENT)) {
            if (line.startsWith("## Promise ")) {
                String name = line.substring(3);
                Nets.due("there are tests under '" + name + "'", ASKED.containsKey(name) ? 1 : 0, 1);
                promises++;
            }
        }
        Nets.due("promises in the document", promises, 49);
    }
}
