import java.io.IOException;
import java.nio.file.Files;
import java.nio.file.Path;
import java.util.Set;
import java.util.TreeSet;
import java.util.regex.Matcher;
import java.util.regex.Pattern;

// Each test that BOUNDARIES.md names is there and is run, and each test of the edges is named in it.
public final class BoundaryTableTest {
    private static final Pattern NAMED = Pattern.compile("`(\\w+Test)\\.(\\w+)`");
    private static final Pattern RUN = Pattern.compile("(?m)^        (\\w+)\\(\\);$");

    public static void main(String[] args) throws IOException {
        Set<String> named = new TreeSet<>();
        Matcher m = NAMED.matcher(Files.readString(Path.of("src/test/BOUNDARIES.md")));
        while (m.find()) named.add(m.group(1) + "." + m.group(2));
        Due.is("tests are named", named.isEmpty() ? 0 : 1, 1);
        for (String name : named) {
            String[] parts = name.split("\\.");
            Due.is(name + " is run", testsRunBy(parts[0]).contains(parts[1]) ? 1 : 0, 1);
        }
        for (String file : new String[] {"MakingEdgesTest", "ScriptEdgesTest", "ChainEdgesTest", "PoolEdgesTest"}) {
            for (String test : testsRunBy(file)) Due.is(file + "." + test + " is named", named.contains(file + "." + test) ? 1 : 0, 1);
        }
        Due.end();
    }

    private static Set<String> testsRunBy(String file) throws IOException {
        Path path = Path.of("src/test/java/" + file + ".java");
        Set<String> tests = new TreeSet<>();
        if (!Files.exists(path)) return tests;
        String text = Files.readString(path);
        String main = text.substring(text.indexOf("void main("), text.indexOf("Due.end();"));
        Matcher m = RUN.matcher(main);
        while (m.find()) tests.add(m.group(1));
        return tests;
    }
}
