import java.nio.charset.StandardCharsets;
import java.nio.file.Files;
import java.nio.file.Path;
import java.util.HashSet;
import java.util.List;
import java.util.Set;

/** Runs that another reading of the document answered, told in a file: it shares no code with the models in Java. */
public final class SecondReadingTest {
    private static final Path RUNS = Path.of("src/test/runs/second-reading.txt");
    private static final int METHODS = 48;

    private SecondReadingTest() {
    }

    public static void main(String[] args) throws Exception {
        List<String> lines = Files.readAllLines(RUNS, StandardCharsets.US_ASCII);
        Set<String> called = new HashSet<>();
        FaceCuts cuts = new FaceCuts();
        boolean goesOn = true;
        for (int i = 0; i < lines.size(); i++) {
            String line = lines.get(i);
            if (line.startsWith("#")) {
                continue;
            }
            if (line.equals("new")) {
                cuts = new FaceCuts();
                goesOn = true;
            } else if (goesOn) {
                // Behind a wrong answer the rest of a run tells nothing more.
                goesOn = asDue(cuts, line, i + 1, called);
            }
        }
        Nets.due("methods called: " + called, called.size(), METHODS);
        Nets.end();
    }

    private static boolean asDue(FaceCuts cuts, String line, int number, Set<String> called) throws Exception {
        int at = line.lastIndexOf(" = ");
        long due = Long.parseLong(line.substring(at + 3));
        String call = line.substring(0, at);
        long got;
        if (call.startsWith("tape |")) {
            called.add("feed");
            got = Nets.feed(cuts, bytes(call.substring(6, call.length() - 1)));
        } else {
            String[] words = call.split(" ");
            called.add(words[0]);
            got = Calls.answer(cuts, words[0], List.of(words).subList(1, words.length).toArray(new String[0]));
        }
        Nets.due(RUNS + ":" + number + ": " + call, got, due);
        return got == due;
    }

    private static String bytes(String told) {
        StringBuilder s = new StringBuilder();
        for (int i = 0; i < told.length(); i++) {
            if (told.charAt(i) == '\\') {
                s.append((char) Integer.parseInt(told.substring(i + 1, i + 3), 16));
                i += 2;
            } else {
                s.append(told.charAt(i));
            }
        }
        return s.toString();
    }
}
