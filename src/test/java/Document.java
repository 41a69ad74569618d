import java.io.IOException;
import java.nio.file.Files;
import java.nio.file.Path;
import java.util.ArrayList;
import java.util.LinkedHashMap;
import java.util.List;
import java.util.Map;

/** The sentences of the document that promise something, and how often each has been held against the class. */
final class Document {
    /** The sections that are no promises, by the number they are given here. */
    static final int TERMS = 0;
    static final int WHAT_IT_IS = -1;
    private static final int PROMISES = 49;
    private static final String[] PROMISES_NOTHING = {"A shell says who is calling", "====", "Ahead of the calls"};
    private final Map<String, Integer> tested = new LinkedHashMap<>();

    Document(Path path) throws IOException {
        for (String section : Files.readString(path).split("(?m)^## ")) {
            String head = section.lines().findFirst().orElse("");
            int number = numberOf(head);
            if (number >= WHAT_IT_IS) {
                section.lines().skip(1).forEach(line -> addLine(number, line));
            }
        }
    }

    private static int numberOf(String head) {
        if (head.startsWith("Promise ")) {
            return Integer.parseInt(head.substring(8, head.indexOf(':')));
        }
        return head.equals("Terms") ? TERMS : head.equals("What it is") ? WHAT_IT_IS : -2;
    }

    private void addLine(int number, String line) {
        String told = line.replaceAll("^`[^`]*`: ", "").replaceAll("\\s+", " ").strip();
        for (String sentence : told.split("(?<=\\.\\)?) ")) {
            if (promises(sentence)) {
                tested.put(key(number, sentence), 0);
            }
        }
    }

    private static boolean promises(String sentence) {
        for (String start : PROMISES_NOTHING) {
            if (sentence.startsWith(start)) {
                return false;
            }
        }
        return !sentence.isEmpty() && !sentence.startsWith("```");
    }

    static String key(int number, String sentence) {
        String section = number > 0 ? "promise " + number : number == TERMS ? "terms" : "what it is";
        return section + ", \"" + sentence + "\"";
    }

    boolean has(String key) {
        return tested.containsKey(key);
    }

    void count(String key) {
        tested.merge(key, 1, Integer::sum);
    }

    /** Sentences that no test was about. */
    List<String> untested() {
        List<String> keys = new ArrayList<>();
        tested.forEach((key, times) -> {
            if (times == 0) {
                keys.add(key);
            }
        });
        for (int i = 1; i <= PROMISES; i++) {
            String start = "promise " + i + ",";
            if (tested.keySet().stream().noneMatch(key -> key.startsWith(start))) {
                keys.add(start + " which the document doesn't have");
            }
        }
        return keys;
    }

    int size() {
        return tested.size();
    }
}
