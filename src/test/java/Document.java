import java.io.IOException;
import java.nio.file.Files;
import java.nio.file.Path;
import java.util.ArrayList;
import java.util.LinkedHashMap;
import java.util.List;
import java.util.Map;
import java.util.regex.Matcher;
import java.util.regex.Pattern;

/** The document's text by places: "section 1" to "section 8", "promise 1" on, or a heading. */
final class Document {
    private static final Path PATH = Path.of("../shared/DOC.md");
    private static final Pattern SECTION = Pattern.compile("(\\d+)\\. [A-Z ]+");
    private static final Pattern PROMISE = Pattern.compile("## Promise (\\d+): .*");
    private static final Pattern HEADING = Pattern.compile("## (.*)");

    private final Map<String, List<String>> lines = new LinkedHashMap<>();

    Document() {
        String place = "";
        for (String line : readLines()) {
            place = placeFrom(line, place);
            lines.computeIfAbsent(place, key -> new ArrayList<>()).add(line);
        }
    }

    private static List<String> readLines() {
        try {
            return Files.readAllLines(PATH);
        } catch (IOException e) {
            throw new AssertionError("the document can't be read: " + e);
        }
    }

    private static String placeFrom(String line, String before) {
        Matcher section = SECTION.matcher(line);
        Matcher promise = PROMISE.matcher(line);
        Matcher heading = HEADING.matcher(line);
        if (section.matches()) {
            return "section " + section.group(1);
        }
        if (promise.matches()) {
            return "promise " + promise.group(1);
        }
        return heading.matches() ? heading.group(1) : before;
    }

    boolean holds(String place, String sentence) {
        return String.join("\n", lines.getOrDefault(place, List.of())).contains(sentence);
    }

    /** The lines that tell when a call is refused, each with its place in front. */
    List<String> refusals() {
        List<String> found = new ArrayList<>();
        for (Map.Entry<String, List<String>> entry : lines.entrySet()) {
            for (String line : entry.getValue()) {
                if (line.startsWith("Throws ")) {
                    found.add(entry.getKey() + ": " + line);
                }
            }
        }
        return found;
    }

    /** What the class has, by the lines of the public face that tell of a member of it. */
    List<String> face() {
        List<String> found = new ArrayList<>();
        for (String line : lines.getOrDefault("The public face", List.of())) {
            if (line.startsWith("    ")) {
                found.add(line.trim());
            }
        }
        return found;
    }

    /** The promises' places. */
    List<String> promises() {
        List<String> found = new ArrayList<>();
        for (String place : lines.keySet()) {
            if (place.startsWith("promise ")) {
                found.add(place);
            }
        }
        return found;
    }
}
