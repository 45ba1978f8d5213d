import java.lang.reflect.Method;
import java.nio.file.Files;
import java.nio.file.Path;
import java.util.Set;
import java.util.TreeSet;
import java.util.regex.Matcher;
import java.util.regex.Pattern;

/**
 * The example in README.md holds: its calls, one to a line, are carried out in their order, each
 * compared with the answer behind it. The lines that make the object are known to this test.
 */
public final class ReadmeTest {
    private static final Pattern CALL = Pattern.compile("fold\\.(\\w+)\\(([^)]*)\\); +// (-?\\d+|true|false|[A-Z]+)\\b.*");

    private static final Check CHECK = new Check();

    public static void main(String[] args) throws Exception {
        String text = Files.readString(Path.of("README.md"));
        CHECK.due("README.md makes the object of the test",
            text.contains("new RnaFoldEnergy(3)") && text.contains("{2, 2, 2, 2, 0, 0, 0, 0, 1, 1, 1, 1}"), true);
        RnaFoldEnergy fold = Sequences.make(3, "GGGGAAAACCCC");
        Set<String> shown = new TreeSet<>();
        for (String line : text.lines().toList()) {
            Matcher call = CALL.matcher(line);
            if (call.matches()) {
                shown.add(call.group(1));
                CHECK.due("README.md: " + line, answer(fold, call.group(1), call.group(2)), due(call.group(3)));
            }
        }
        for (Method method : RnaFoldEnergy.class.getMethods()) {
            if (method.getDeclaringClass() == RnaFoldEnergy.class) {
                CHECK.due("README.md shows " + method.getName(), shown.contains(method.getName()), true);
            }
        }
        CHECK.finish();
    }

    private static String due(String word) throws Exception {
        boolean constant = word.matches("[A-Z]+");
        return constant ? "" + RnaFoldEnergy.class.getField(word).getInt(null) : word;
    }

    private static String answer(RnaFoldEnergy fold, String name, String list) throws Exception {
        String[] words = list.isBlank() ? new String[0] : list.split(", *");
        Class<?>[] types = new Class<?>[words.length];
        Object[] values = new Object[words.length];
        for (int w = 0; w < words.length; w++) {
            boolean truth = words[w].matches("true|false");
            types[w] = truth ? boolean.class : int.class;
            values[w] = truth ? (Object) Boolean.valueOf(words[w]) : (Object) Integer.valueOf(words[w]);
        }
        return "" + RnaFoldEnergy.class.getMethod(name, types).invoke(fold, values);
    }
}
