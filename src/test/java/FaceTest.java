import java.lang.reflect.Constructor;
import java.lang.reflect.Field;
import java.lang.reflect.Method;
import java.lang.reflect.Modifier;
import java.util.Set;
import java.util.TreeSet;

// The public face of the document, and no other member that is not private.
public final class FaceTest {
    private static final String[] FACE = {
        "int BAD", "int REFUSED", "int LATE", "int CHEAP", "int FULL", "CoinNode()",
        "int token(int, int, int)", "int input(int, int, int)", "int output(int, int)", "int make()",
        "int put(int)", "int mine(int, int, int)", "int deliver(int)", "int offer(int)", "int forge(int, int)",
        "int active(int)", "int block(int, int)", "int coin(int)", "int at(int)", "int pool(int)",
        "int fee(int)", "long balance(int)",
    };

    public static void main(String[] args) {
        Set<String> due = new TreeSet<>(Set.of(FACE));
        Set<String> found = new TreeSet<>();
        for (Field f : CoinNode.class.getDeclaredFields()) {
            if (!Modifier.isPrivate(f.getModifiers())) found.add(f.getType() + " " + f.getName());
        }
        for (Constructor<?> c : CoinNode.class.getDeclaredConstructors()) {
            if (!Modifier.isPrivate(c.getModifiers())) found.add("CoinNode(" + list(c.getParameterTypes()) + ")");
        }
        Set<String> publicNames = new TreeSet<>();
        Set<String> privateNames = new TreeSet<>();
        for (Method m : CoinNode.class.getDeclaredMethods()) {
            boolean hidden = Modifier.isPrivate(m.getModifiers());
            (hidden ? privateNames : publicNames).add(m.getName());
            if (!hidden) found.add(m.getReturnType() + " " + m.getName() + "(" + list(m.getParameterTypes()) + ")");
        }
        for (String member : due) Due.is("there is " + member, found.contains(member) ? 1 : 0, 1);
        for (String member : found) Due.is("the document has " + member, due.contains(member) ? 1 : 0, 1);
        for (String name : privateNames) Due.is("a public method has the name " + name, publicNames.contains(name) ? 1 : 0, 0);
        int modifiers = CoinNode.class.getModifiers();
        Due.is("public and final", Modifier.isPublic(modifiers) && Modifier.isFinal(modifiers) ? 1 : 0, 1);
        Due.is("nested classes", CoinNode.class.getDeclaredClasses().length, 0);
        Due.is("BAD", CoinNode.BAD, -1);
        Due.is("REFUSED", CoinNode.REFUSED, -2);
        Due.is("LATE", CoinNode.LATE, -3);
        Due.is("CHEAP", CoinNode.CHEAP, -4);
        Due.is("FULL", CoinNode.FULL, -5);
        Due.end();
    }

    private static String list(Class<?>[] types) {
        StringBuilder names = new StringBuilder();
        for (Class<?> type : types) names.append(names.length() == 0 ? "" : ", ").append(type);
        return names.toString();
    }
}
