import java.io.IOException;
import java.lang.reflect.Method;
import java.lang.reflect.Modifier;
import java.nio.file.DirectoryStream;
import java.nio.file.Files;
import java.nio.file.Path;
import java.util.HashMap;
import java.util.Map;
import java.util.regex.Matcher;
import java.util.regex.Pattern;

// README.md: its example answers what its comments say, and it names every call and every test.
public final class ReadmeTest {
    private static final Pattern EXAMPLE = Pattern.compile("(?s)```java\n(.*?)```");
    private static final Pattern STEP =
        Pattern.compile("^(?:(?:int|long) (\\w+) = )?node\\.(\\w+)\\((.*)\\); +// (-?\\d+|[A-Z]+)(?::.*)?$");

    public static void main(String[] args) throws ReflectiveOperationException, IOException {
        String readme = Files.readString(Path.of("README.md"));
        Matcher example = EXAMPLE.matcher(readme);
        Due.is("there is an example", example.find() ? 1 : 0, 1);
        String[] lines = example.group(1).split("\n");
        Due.is("the first line makes a node", lines[0].equals("CoinNode node = new CoinNode();") ? 1 : 0, 1);
        CoinNode node = new CoinNode();
        Map<String, Integer> names = new HashMap<>();
        for (int i = 1; i < lines.length; i++) follow(node, lines[i], names);
        namesEveryCall(readme);
        namesEveryTest(readme);
        Due.end();
    }

    private static void follow(CoinNode node, String line, Map<String, Integer> names)
            throws ReflectiveOperationException {
        Matcher step = STEP.matcher(line);
        boolean read = step.matches();
        Due.is("a call and its answer: " + line, read ? 1 : 0, 1);
        if (!read) return;
        String[] words = step.group(3).split(", ");
        Object[] values = new Object[words.length];
        Class<?>[] types = new Class<?>[words.length];
        for (int i = 0; i < words.length; i++) {
            values[i] = value(words[i], names);
            types[i] = int.class;
        }
        boolean none = step.group(3).isEmpty();
        Method call = CoinNode.class.getMethod(step.group(2), none ? new Class<?>[0] : types);
        long answer = ((Number) call.invoke(node, none ? new Object[0] : values)).longValue();
        String due = step.group(4);
        boolean isName = Character.isLetter(due.charAt(0));
        Due.is(line, answer, isName ? CoinNode.class.getField(due).getInt(null) : Long.parseLong(due));
        if (step.group(1) != null) names.put(step.group(1), (int) answer);
    }

    // A number, a name, or a product of these.
    private static int value(String words, Map<String, Integer> names) {
        int product = 1;
        for (String word : words.split(" \\* ")) {
            if (word.isEmpty()) continue;
            product *= names.containsKey(word) ? names.get(word) : Integer.parseInt(word);
        }
        return product;
    }

    private static void namesEveryCall(String readme) {
        for (Method m : CoinNode.class.getDeclaredMethods()) {
            if (!Modifier.isPublic(m.getModifiers())) continue;
            Due.is("README.md has " + m.getName(), readme.contains("`" + m.getName() + "(") ? 1 : 0, 1);
        }
    }

    private static void namesEveryTest(String readme) throws IOException {
        try (DirectoryStream<Path> tests = Files.newDirectoryStream(Path.of("src/test/java"), "*Test.java")) {
            for (Path test : tests) {
                String name = test.getFileName().toString().replace(".java", "");
                Due.is("README.md has " + name, readme.contains("`" + name + "`") ? 1 : 0, 1);
            }
        }
    }
}
