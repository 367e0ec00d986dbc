import java.io.IOException;
import java.lang.reflect.Constructor;
import java.lang.reflect.Field;
import java.lang.reflect.Method;
import java.lang.reflect.Modifier;
import java.nio.file.Files;
import java.nio.file.Paths;
import java.util.ArrayList;
import java.util.Arrays;
import java.util.List;
import java.util.Random;
import java.util.TreeSet;
import java.util.regex.Matcher;
import java.util.regex.Pattern;

/** What of LANGUAGE.md a program can look for: the face, words that are ruled out, lengths, and that no call throws. */
public final class LanguageTest {
    private static final List<String> FACE = Arrays.asList("boolean columns(int)", "int block(int,int,int,int,int)",
            "int put(int,int)", "boolean take(int,int)", "int refused(int)", "int of(int,int)", "int height(int)",
            "int noon()", "int dusk()", "int feed(int,int,int,int,int)", "boolean end(int)", "int text()",
            "int fault(int)", "int plan(int,int)", "int down(int)", "int which(int,int)", "int hand(int)",
            "boolean quarrel(int,int,boolean)", "boolean wind(int,int,int)", "boolean pay(int,int)",
            "long worth(int,int,int,int)", "long bet(int,int)", "boolean undo()", "boolean image(boolean)",
            "int look(int)");
    private static final String RULED_OUT = "\\b(throw|throws|try|catch|synchronized|assert|double|float|Object|Thread"
            + "|\\w+Exact|toString|hashCode|enum|record|volatile|native)\\b|->|::|System\\.(?!arraycopy)|while \\(true";
    private static int wrong = 0;

    private LanguageTest() {
    }

    public static void main(String[] args) throws IOException {
        face();
        for (Class<?> c : classes()) {
            inside(c);
        }
        due(classes().size() + " classes", classes().size() <= 12);
        String text = new String(Files.readAllBytes(Paths.get("src/main/java/DuskTower.java")));
        source(text.replaceAll("(?m)^\\s*(//|/\\*|\\*).*$", "").split("\n"));
        for (int seed = 0; seed < 300; seed++) {
            wild(new Random(seed));
        }
        System.out.println(wrong == 0 ? "the language is kept" : wrong + " breaches");
        System.exit(wrong == 0 ? 0 : 1);
    }

    private static void due(String what, boolean holds) {
        if (!holds) {
            wrong++;
            System.out.println("not so: " + what);
        }
    }

    private static List<Class<?>> classes() {
        List<Class<?>> all = new ArrayList<>(Arrays.asList(DuskTower.class.getDeclaredClasses()));
        all.add(DuskTower.class);
        return all;
    }

    private static void face() {
        TreeSet<String> found = new TreeSet<>();
        for (Method m : DuskTower.class.getDeclaredMethods()) {
            if (Modifier.isPublic(m.getModifiers())) {
                String types = Arrays.toString(m.getParameterTypes()).replaceAll("[\\[\\] ]", "");
                found.add(m.getReturnType() + " " + m.getName() + "(" + types + ")");
            } else {
                due(m + " is private", Modifier.isPrivate(m.getModifiers()) || m.isSynthetic());
            }
        }
        due("the methods are " + found, found.equals(new TreeSet<>(FACE)));
        for (Field f : DuskTower.class.getDeclaredFields()) {
            due(f + " is private", Modifier.isPrivate(f.getModifiers()) || f.getName().equals("NONE"));
        }
        Constructor<?>[] all = DuskTower.class.getDeclaredConstructors();
        due("one constructor, public, without arguments", all.length == 1 && Modifier.isPublic(all[0].getModifiers())
                && all[0].getParameterCount() == 0);
        due("final", Modifier.isFinal(DuskTower.class.getModifiers()));
    }

    private static void inside(Class<?> c) {
        int fields = 0;
        for (Field f : c.getDeclaredFields()) {
            int kind = f.getModifiers();
            fields += Modifier.isStatic(kind) ? 0 : 1;
            due(f + " is final, as all static ones", !Modifier.isStatic(kind) || Modifier.isFinal(kind));
        }
        due(c + " has " + fields + " fields", fields <= 20);
        due(c + " is static", c == DuskTower.class || Modifier.isStatic(c.getModifiers()));
        for (Method m : c.getDeclaredMethods()) {
            due(m + " takes seven at most", m.getParameterCount() <= 7);
            boolean named = false;
            for (String f : FACE) {
                named |= f.matches("\\w+ " + m.getName() + "\\(.*");
            }
            due(m + " bears no name of the face", !named || c == DuskTower.class);
        }
    }

    private static void source(String[] lines) {
        Pattern out = Pattern.compile(RULED_OUT);
        int from = 0;
        for (int i = 0; i < lines.length; i++) {
            String line = lines[i];
            Matcher m = out.matcher(line);
            due("line " + (i + 1) + " keeps the rules: " + line.trim(), !m.find());
            due("line " + (i + 1) + " makes nothing in a method", !line.contains("new ")
                    || line.matches("\\s+(private )?final .* = new .*;"));
            boolean starts = line.matches("\\s+(?!if|for|while|switch|else|\\})[\\w\\[\\] ]+\\(.*\\) \\{");
            if (starts) {
                from = i;
            }
            due("the method at line " + (from + 1) + " is short", i - from <= 60 || from == 0 || !line.matches(" {8,}.*")
                    || line.matches("\\s+(private |static |final )+.*;"));
        }
    }

    private static int odd(Random random) {
        int[] edges = {Integer.MIN_VALUE, Integer.MAX_VALUE, -1, 0, 1, 2, 19, 20, 59, 60, 400, -2, 31, 32, 63};
        int dice = random.nextInt(4);
        return dice == 0 ? random.nextInt() : dice == 1 ? edges[random.nextInt(edges.length)] : random.nextInt(12);
    }

    /** Whatever is asked: what throws ends the test. */
    private static void wild(Random random) {
        DuskTower x = new DuskTower();
        List<Method> methods = new ArrayList<>();
        for (Method m : DuskTower.class.getDeclaredMethods()) {
            if (Modifier.isPublic(m.getModifiers())) {
                methods.add(m);
            }
        }
        methods.sort((a, b) -> a.toString().compareTo(b.toString()));
        for (int i = 0; i < 512; i++) {
            Method m = methods.get(random.nextInt(methods.size()));
            Object[] with = new Object[m.getParameterCount()];
            for (int j = 0; j < with.length; j++) {
                with[j] = m.getParameterTypes()[j] == int.class ? (Object) odd(random) : (Object) random.nextBoolean();
            }
            try {
                m.invoke(x, with);
            } catch (ReflectiveOperationException e) {
                due(m + " of " + Arrays.toString(with) + " throws " + e.getCause(), false);
            }
        }
    }
}
