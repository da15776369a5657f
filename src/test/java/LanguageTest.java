import java.io.IOException;
import java.nio.file.Files;
import java.nio.file.Path;
import java.util.ArrayList;
import java.util.HashMap;
import java.util.List;
import java.util.Map;
import java.util.Set;
import java.util.TreeSet;
import java.util.regex.Matcher;
import java.util.regex.Pattern;

// Rules of LANGUAGE.md that the text of the program shows. It reads the program as it is laid out here: fields
// and the heads of methods stand four blanks in, and a method ends with a brace there.
public final class LanguageTest {
    private static final Pattern FORBIDDEN = Pattern.compile("\\b(import|package|float|double|String|Math|Integer|System"
        + "|Arrays|null|throw|throws|try|catch|synchronized|assert|instanceof|interface|enum"
        + "|record|this|super|Object|hashCode|equals|getClass)\\b|->|::|\"|\\[\\]\\[\\]");
    private static final Pattern HEAD = Pattern.compile("^    (public|private) (?:static )?(?:\\w+ )?(\\w+)\\((.*)\\) \\{$");
    private static final Pattern CALL = Pattern.compile("(?<!new )\\b([a-zA-Z]\\w*)\\(");
    private static final Pattern FIELD = Pattern.compile("^    private (final )?\\w+(\\[\\])? \\w+ = .*;$");
    private static final Pattern ARRAY = Pattern.compile("^    private final (\\w+)\\[\\] \\w+ = new \\1\\[[A-Z_]+\\];$");
    private static final Set<String> WORDS = Set.of("if", "for", "while", "switch", "return");

    public static void main(String[] args) throws IOException {
        Map<String, Set<String>> calls = new HashMap<>();
        String method = "";
        int length = 0;
        int fields = 0;
        for (String line : Files.readAllLines(Path.of("src/main/java/CoinNode.java"))) {
            String code = line.replaceAll("//.*", "").stripTrailing();
            Due.is("forbidden in: " + line, FORBIDDEN.matcher(code).find() ? 1 : 0, 0);
            Due.is("an array is made as a field alone: " + line, code.contains("new ") && !ARRAY.matcher(code).matches() ? 1 : 0, 0);
            Due.is("a call in the arguments of a call: " + line, callsInArguments(code), 0);
            if (FIELD.matcher(code).matches()) fields++;
            Matcher head = HEAD.matcher(code);
            if (head.matches()) {
                method = head.group(2);
                length = 0;
                Due.is("the method is there once: " + method, calls.containsKey(method) ? 1 : 0, 0);
                Due.is("parameters of " + method, head.group(3).split(",").length > 7 ? 1 : 0, 0);
                calls.put(method, new TreeSet<>());
                continue;
            }
            length++;
            Due.is("lines of " + method, length > 60 && !method.isEmpty() ? length : 0, 0);
            Matcher call = CALL.matcher(code);
            while (call.find() && !method.isEmpty()) {
                if (!WORDS.contains(call.group(1))) calls.get(method).add(call.group(1));
            }
            if (code.equals("    }")) method = "";
        }
        Due.is("methods found", calls.size() > 17 ? 1 : 0, 1);
        Due.is("fields found", fields > 0 ? 1 : 0, 1);
        Due.is("more than 40 fields", fields > 40 ? fields : 0, 0);
        for (String name : calls.keySet()) Due.is("calls from " + name + " go deeper than six", depth(name, calls) > 6 ? 1 : 0, 0);
        Due.end();
    }

    // Methods on the longest way down from one, itself included; a method that calls itself is deeper than any bound.
    private static int depth(String method, Map<String, Set<String>> calls) {
        List<String> level = new ArrayList<>(List.of(method));
        int depth = 0;
        while (!level.isEmpty() && depth < 50) {
            Set<String> next = new TreeSet<>();
            for (String name : level) next.addAll(calls.getOrDefault(name, Set.of()));
            level = new ArrayList<>(next);
            depth++;
        }
        return depth;
    }

    private static int callsInArguments(String code) {
        int found = 0;
        List<Boolean> open = new ArrayList<>();
        for (int i = 0; i < code.length(); i++) {
            if (code.charAt(i) == ')' && !open.isEmpty()) open.remove(open.size() - 1);
            if (code.charAt(i) != '(') continue;
            Matcher name = Pattern.compile("(\\w+)$").matcher(code.substring(0, i));
            boolean call = name.find() && !WORDS.contains(name.group(1));
            if (call && open.contains(true)) found++;
            open.add(call);
        }
        return found;
    }
}
