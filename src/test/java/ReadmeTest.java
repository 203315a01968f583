import java.io.IOException;
import java.nio.file.Files;
import java.nio.file.Path;
import java.util.LinkedHashMap;
import java.util.List;
import java.util.Map;
import java.util.Set;
import java.util.stream.Collectors;

/** The example of README.md: each of its lines is called here and answers the number that stands behind it there. */
public final class ReadmeTest {
    private static final Path README = Path.of("README.md");
    private static final Path THIS = Path.of("src/test/java/ReadmeTest.java");

    private static final Map<String, Integer> ANSWERS = new LinkedHashMap<>();

    public static void main(String[] args) throws IOException {
        callTheExample();
        List<String> example = exampleOf(Files.readString(README));
        Set<String> called = Files.readAllLines(THIS).stream().map(String::trim).collect(Collectors.toSet());
        int answers = 0;
        for (String line : example) {
            String code = line.replaceAll("//.*", "").trim();
            Check.due("'" + code + "' is called here", code.isEmpty() || called.contains(code) ? 1 : 0, 1);
            if (code.startsWith("int ")) {
                answers++;
                String name = code.split(" ")[1];
                long told = Long.parseLong(line.replaceAll(".*// (-?\\d+).*", "$1"));
                Check.due(code, ANSWERS.getOrDefault(name, Integer.MIN_VALUE), told);
            }
        }
        Check.due("how many lines of README.md are called", answers, ANSWERS.size());
        Check.end("ReadmeTest");
    }

    private static List<String> exampleOf(String readme) {
        int start = readme.indexOf("```java");
        int end = readme.indexOf("```", start + 1);
        return start < 0 || end < 0 ? List.of() : readme.substring(start, end).lines().skip(1).toList();
    }

    private static void answered(String names, int... answers) {
        String[] all = names.split(" ");
        for (int i = 0; i < all.length; i++) {
            ANSWERS.put(all[i], answers[i]);
        }
    }

    private static void callTheExample() {
        ChoirBook book = new ChoirBook();
        int easter = book.year(2024, 2);
        int lady = book.day(2024, 3, 25);
        answered("easter lady",
            easter, lady);

        int seasons = book.season(-7, 7, 9, 8, 5);
        int christmas = book.feast(0, 1225, 9, 1, 2);
        int annunciation = book.feast(0, 325, 7, 1, 2);
        int around = book.around(christmas, 5, true);
        int kept = book.kept(2024, annunciation);
        int own = book.office(2024, kept, 5);
        int moved = book.tally(2024, 3, 0);
        int vigil = book.office(2024, 358, 0);
        int also = book.also(2024, 363, 0, 0);
        answered("seasons christmas annunciation around kept own moved vigil also",
            seasons, christmas, annunciation, around, kept, own, moved, vigil, also);

        int before = book.verses(119, 176);
        int limit = book.dealt(0, 0, 3);
        int fixed = book.fix(95, 0);
        int festal = book.festal(0, 2);
        int first = book.sung(2024, 359, 0, 0);
        int second = book.sung(2024, 359, 0, 1);
        int times = book.times(2024, 0, 365, 95);
        answered("before limit fixed festal first second times",
            before, limit, fixed, festal, first, second, times);

        int tenor = book.tenor(0, 9);
        int intonation = book.note(0, 0, 7);
        int accent = book.accent(0, 1, 1, 10, 8, 6);
        int one = book.syllable(0, false);
        int two = book.syllable(0, false);
        int three = book.syllable(0, true);
        int four = book.syllable(0, false);
        int onIntonation = book.sing(0, 0, 0);
        int onTenor = book.sing(0, 0, 1);
        int onAccent = book.sing(0, 0, 2);
        int behindAccent = book.sing(0, 0, 3);
        answered("tenor intonation accent one two three four onIntonation onTenor onAccent behindAccent",
            tenor, intonation, accent, one, two, three, four, onIntonation, onTenor, onAccent, behindAccent);

        int older = book.monk(1 + 4);
        int younger = book.monk(1 + 2 + 4);
        int absences = book.absence(older, 2024, 1, 3);
        int open = book.roster(2024, 0, 7);
        int officiant = book.turn(1, 0, 0);
        int cantor = book.turn(1, 1, 0);
        int had = book.had(younger, 0);
        answered("older younger absences open officiant cantor had",
            older, younger, absences, open, officiant, cantor, had);
    }
}
