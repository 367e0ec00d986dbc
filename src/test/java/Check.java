import java.io.IOException;
import java.nio.file.Files;
import java.nio.file.Path;
import java.nio.file.Paths;
import java.util.Arrays;

/** What the tests that were worked out by hand have in common: comparing an answer with the one due, and telling a vow. */
class Check {
    static final int NONE = DuskTower.NONE;
    private static int wrong = 0;
    private static String about = "";
    private static String document = null;

    /** What the next answers belong to, told beside a wrong one. */
    static void about(String what) {
        about = what;
    }

    /** The document's own words for what the next answers belong to: where it can be read, they must stand there. */
    static void says(String words) {
        about(words);
        if (!document().isEmpty() && !document().contains(words)) {
            fail("the document does not say so");
        }
    }

    private static String document() {
        if (document == null) {
            Path at = Paths.get("../shared/DOC.md");
            try {
                document = new String(Files.readAllBytes(at)).replace("`", "");
            } catch (IOException e) {
                document = "";
            }
        }
        return document;
    }

    static void due(long want, long got) {
        if (got != want) {
            fail("answered " + got + ", due is " + want);
        }
    }

    static void due(boolean want, boolean got) {
        due(want ? 1 : 0, got ? 1 : 0);
    }

    static void fail(String what) {
        wrong++;
        int line = 0;
        for (StackTraceElement e : new Throwable().getStackTrace()) {
            if (line == 0 && !e.getClassName().equals("Check") && !e.getMethodName().startsWith("due")) {
                line = e.getLineNumber();
            }
        }
        System.out.println(about + ", line " + line + ": " + what);
    }

    static void finish(String good) {
        System.out.println(wrong == 0 ? good : wrong + " answers are not as due");
        System.exit(wrong == 0 ? 0 : 1);
    }

    /** All of look(0), look(1) and on. */
    static void dueLooks(DuskTower x, int... want) {
        int[] got = new int[want.length];
        for (int i = 0; i < want.length; i++) {
            got[i] = x.look(i);
        }
        if (!Arrays.equals(want, got)) {
            fail("look answered " + Arrays.toString(got) + ", due is " + Arrays.toString(want));
        }
    }

    /** All that can be seen of it but the tape, the latest fault and the latest refusal. */
    static String sight(DuskTower x) {
        StringBuilder all = new StringBuilder();
        for (int i = 0; i <= 10; i++) {
            all.append(x.look(i)).append(i < 10 ? " " : "; ");
        }
        for (int b = 0; b < x.look(1); b++) {
            for (int i = 0; i <= 9; i++) {
                all.append(x.of(b, i)).append(i < 9 ? " " : "; ");
            }
        }
        for (int i = 0; i < 8; i++) {
            all.append(x.height(i)).append(' ').append(x.worth(8, 8, i + 1, 0)).append(' ');
            all.append(x.bet(8, i + 1)).append(' ');
        }
        return all.append(x.down(0)).toString();
    }

    static void dueSame(String want, DuskTower x) {
        String got = sight(x);
        if (!got.equals(want)) {
            fail("now " + got + "\n    was " + want);
        }
    }

    /** A block of weight 1 that bears much, from place 10. */
    static int plain(DuskTower x, int length) {
        return x.block(length, 1, 999, 0, 10);
    }

    /** As many plain blocks of length 1 in a new tower. */
    static DuskTower withPlain(int blocks) {
        DuskTower x = new DuskTower();
        for (int i = 0; i < blocks; i++) {
            due(i, plain(x, 1));
        }
        return x;
    }

    private static int word(String text, int at) {
        int word = 0;
        for (int i = at; i < at + 4; i++) {
            word = word << 8 | (i < text.length() ? text.charAt(i) & 255 : 'x');
        }
        return word;
    }

    /** The next twenty signs of a text. */
    static int feed(DuskTower x, String text, int at) {
        return x.feed(word(text, at), word(text, at + 4), word(text, at + 8), word(text, at + 12), word(text, at + 16));
    }

    static void fill(DuskTower x, String text) {
        for (int i = 0; i < text.length(); i += 20) {
            feed(x, text, i);
        }
        x.end(text.length());
    }

    static int vow(DuskTower x, String text) {
        fill(x, text);
        return x.text();
    }

    /** What noon() answers with nothing else told than this vow. */
    static int atNoon(String text) {
        DuskTower x = new DuskTower();
        return vow(x, text) == NONE ? -99 : x.noon();
    }

    static void dueFault(int kind, int place, String text) {
        DuskTower x = new DuskTower();
        due(kind == 0, vow(x, text) != NONE);
        due(kind, x.fault(0));
        due(place, x.fault(1));
    }
}
