import java.io.IOException;
import java.lang.reflect.Method;
import java.lang.reflect.Modifier;
import java.nio.file.Files;
import java.nio.file.Paths;
import java.util.Arrays;
import java.util.HashSet;
import java.util.List;
import java.util.Set;
import java.util.TreeSet;
import java.util.regex.Matcher;
import java.util.regex.Pattern;

/** Makes the calls that README.md shows, line by line, and compares the answers that it tells. */
public final class ReadmeTest extends Check {
    private static final Pattern CALL = Pattern.compile("tower\\.(\\w+)\\((.*?)\\);\\s*// (-?\\d+|true|false)\\b.*");
    private static final Pattern TOLD = Pattern.compile("tell\\(tower, \"(.*)\"\\);\\s*// (-?\\d+)\\b.*");
    private static final String MADE = "DuskTower tower = new DuskTower();";
    private static DuskTower tower = null;
    private static final Set<String> USED = new TreeSet<>();

    private ReadmeTest() {
    }

    public static void main(String[] args) throws IOException, ReflectiveOperationException {
        boolean inside = false;
        boolean helper = false;
        Set<String> own = ownLines();
        for (String line : read("README.md")) {
            if (line.startsWith("```")) {
                inside = line.equals("```java");
                helper = false;
            } else if (inside) {
                helper |= line.startsWith("static int tell(");
                about("README.md: " + line);
                if (helper) {
                    due(true, own.contains(line.trim()));
                } else {
                    follow(line);
                }
            }
        }
        about("README.md shows each method");
        for (Method m : DuskTower.class.getDeclaredMethods()) {
            if (Modifier.isPublic(m.getModifiers()) && !USED.contains(m.getName())) {
                fail("but not " + m.getName());
            }
        }
        finish("README.md tells the answers that are given");
    }

    private static List<String> read(String file) throws IOException {
        return Arrays.asList(new String(Files.readAllBytes(Paths.get(file))).split("\n"));
    }

    private static Set<String> ownLines() throws IOException {
        Set<String> own = new HashSet<>();
        for (String line : read("src/test/java/ReadmeTest.java")) {
            own.add(line.trim());
        }
        return own;
    }

    private static void follow(String line) throws ReflectiveOperationException {
        Matcher call = CALL.matcher(line);
        Matcher told = TOLD.matcher(line);
        if (line.startsWith(MADE)) {
            tower = new DuskTower();
        } else if (told.matches()) {
            due(Long.parseLong(told.group(2)), tell(tower, told.group(1)));
            USED.addAll(Arrays.asList("feed", "end", "text"));
        } else if (call.matches()) {
            String got = answer(call.group(1), call.group(2)).toString();
            if (!got.equals(call.group(3))) {
                fail("answered " + got);
            }
        } else {
            fail("is no call with its answer");
        }
    }

    private static Object answer(String name, String with) throws ReflectiveOperationException {
        String[] words = with.isEmpty() ? new String[0] : with.split(", ");
        for (Method m : DuskTower.class.getDeclaredMethods()) {
            if (m.getName().equals(name) && m.getParameterCount() == words.length) {
                USED.add(name);
                return m.invoke(tower, values(words));
            }
        }
        return "nothing: there is no such method";
    }

    private static Object[] values(String[] words) {
        Object[] values = new Object[words.length];
        for (int i = 0; i < words.length; i++) {
            boolean truth = words[i].equals("true") || words[i].equals("false");
            int number = truth ? 0 : words[i].equals("DuskTower.NONE") ? NONE : Integer.parseInt(words[i]);
            values[i] = truth ? (Object) words[i].equals("true") : (Object) number;
        }
        return values;
    }

    static int tell(DuskTower tower, String vow) {
        for (int at = 0; at < vow.length(); at += 20) {
            tower.feed(four(vow, at), four(vow, at + 4), four(vow, at + 8), four(vow, at + 12), four(vow, at + 16));
        }
        tower.end(vow.length());
        return tower.text();
    }

    static int four(String vow, int at) {
        int number = 0;
        for (int i = at; i < at + 4; i++) {
            number = number << 8 | (i < vow.length() ? vow.charAt(i) : ' ');
        }
        return number;
    }
}
