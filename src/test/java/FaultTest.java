import java.util.ArrayList;
import java.util.Arrays;
import java.util.List;
import java.util.Random;
import java.util.regex.Matcher;
import java.util.regex.Pattern;

/**
 * Texts walked at random along the vow's grammar, most with some token changed, left out or put in: the faults are told by
 * an automaton that looks at one token after the other and knows neither the class's way of reading nor the model's.
 */
public final class FaultTest extends Check {
    private static final int RUNS = Integer.getInteger("runs", 20000);
    private static final String[] FACTS = {"height", "blocks", "carries", "cost", "holy", "seen", "day"};
    private static final String[] ODD = {"noon", "dusk", "or", "and", "not", "height", "day", "noonday", "Noon", "0", "00",
        "0000", "00000", "12345", "7", ";", "+", "-", "*", "/", "(", ")", "<", "=", ">", "?", "\t", "\u00e9", "nota"};

    private final Random random;
    private final List<String> tokens = new ArrayList<>();
    private final List<Integer> places = new ArrayList<>();
    private int kind = 0;
    private int place = NONE;

    private FaultTest(long seed) {
        random = new Random(seed);
    }

    public static void main(String[] args) {
        int[] kinds = new int[4];
        for (int seed = 1; seed <= RUNS; seed++) {
            FaultTest test = new FaultTest(seed);
            String text = test.write();
            test.judge(text);
            about(text);
            dueFault(test.kind, test.place, text);
            kinds[test.kind]++;
        }
        for (int i = 0; i < kinds.length; i++) {
            about("texts with fault " + i);
            due(true, kinds[i] > 100);
        }
        finish("texts with faults 0 .. 3, all told as due: " + Arrays.toString(kinds));
    }

    private String write() {
        boolean deep = random.nextInt(3) == 0;
        boolean many = random.nextInt(3) == 0;
        int lines = deep ? 1 + random.nextInt(2) : many ? 15 + random.nextInt(4) : random.nextInt(6);
        for (int i = 0; i < lines; i++) {
            tokens.add(random.nextBoolean() ? "noon" : "dusk");
            claims(deep ? 10 + random.nextInt(2) : many ? 0 : random.nextInt(5));
            tokens.add(";");
        }
        for (int i = random.nextInt(3); i > 0 && !tokens.isEmpty(); i--) {
            spoil(random.nextInt(tokens.size()));
        }
        StringBuilder text = new StringBuilder();
        for (String token : tokens) {
            boolean glued = random.nextInt(8) == 0;
            text.append(glued ? "" : random.nextInt(6) == 0 ? "\n " : " ").append(token);
        }
        return text.length() > 400 ? text.substring(0, 400) : text.toString();
    }

    private void spoil(int at) {
        String odd = ODD[random.nextInt(ODD.length)];
        switch (random.nextInt(3)) {
            case 0: tokens.set(at, odd); break;
            case 1: tokens.add(at, odd); break;
            default: tokens.remove(at);
        }
    }

    private void claims(int room) {
        boolean narrow = room > 4;
        for (int i = narrow || random.nextInt(3) > 0 ? 1 : 2; i > 0; i--) {
            claim(room);
            if (i > 1) {
                tokens.add(random.nextBoolean() ? "and" : "or");
            }
        }
    }

    private void claim(int room) {
        if (room > 0 && random.nextInt(13) < room + 4) {
            boolean not = random.nextBoolean();
            tokens.add(not ? "not" : "(");
            if (not) {
                claim(room - 1);
            } else {
                claims(room - 1);
                tokens.add(")");
            }
            return;
        }
        sum();
        tokens.add(new String[] {"<", "=", ">"}[random.nextInt(3)]);
        sum();
    }

    private void sum() {
        unit();
        for (int i = random.nextInt(6) / 4; i > 0; i--) {
            String sign = new String[] {"+", "-", "*", "/"}[random.nextInt(4)];
            tokens.add(sign);
            if (sign.equals("/")) {
                tokens.add(random.nextInt(9) == 0 ? "0" : "" + random.nextInt(10000));
            } else {
                unit();
            }
        }
    }

    private void unit() {
        tokens.add(random.nextBoolean() ? FACTS[random.nextInt(FACTS.length)] : "" + random.nextInt(10000));
    }

    /** Finds the tokens anew, as blanks were left out, then goes over them until one can't stand. */
    private void judge(String text) {
        split(text);
        String open = "";
        char state = 'L';
        int lines = 0;
        for (int i = 0; i < tokens.size() && kind == 0; i++) {
            String t = tokens.get(i);
            boolean ends = state == 'B' || state == 'R';
            if (ends && t.matches("and|or|\\)|;")) {
                open = open.replaceAll("n+$", "");
            }
            char next = after(state, t, open);
            if (t.equals("not") || t.equals("(")) {
                open += t.charAt(0);
            } else if (t.equals(")") && open.endsWith("(")) {
                open = open.substring(0, open.length() - 1);
            }
            lines += state == 'L' ? 1 : 0;
            if (next == '!') {
                blame(1, places.get(i));
            } else if ((state == 'd' || state == 'D') && Integer.parseInt(t) == 0) {
                blame(2, places.get(i));
            } else if (lines > 16 || open.length() > 8) {
                blame(3, places.get(i));
            }
            state = next;
        }
        if (kind == 0 && state != 'L') {
            blame(1, text.length());
        }
    }

    private void blame(int what, int where) {
        kind = what;
        place = where;
    }

    private void split(String text) {
        tokens.clear();
        Matcher m = Pattern.compile("[a-zA-Z]+|[0-9]+|[^ \n]").matcher(text);
        while (m.find()) {
            tokens.add(m.group());
            places.add(m.start());
        }
    }

    /**
     * L a line; C a claim; u, U a unit left and right of the < = >; b, B behind one; d, D a part's number; R behind a ).
     */
    private static char after(char state, String t, String open) {
        boolean number = t.matches("[0-9]{1,4}");
        boolean unit = number || Arrays.asList(FACTS).contains(t);
        boolean right = state == 'B' || state == 'U' || state == 'D';
        switch (state) {
            case 'L': return t.matches("noon|dusk") ? 'C' : '!';
            case 'C': return t.matches("not|\\(") ? 'C' : unit ? 'b' : '!';
            case 'u': return unit ? 'b' : '!';
            case 'U': return unit ? 'B' : '!';
            case 'd': return number ? 'b' : '!';
            case 'D': return number ? 'B' : '!';
            default: break;
        }
        if (state != 'R' && t.matches("[-+*]")) {
            return right ? 'U' : 'u';
        }
        if (state != 'R' && t.equals("/")) {
            return right ? 'D' : 'd';
        }
        if (state == 'b') {
            return t.matches("[<=>]") ? 'U' : '!';
        }
        if (t.matches("and|or")) {
            return 'C';
        }
        if (t.equals(")")) {
            return open.contains("(") ? 'R' : '!';
        }
        return t.equals(";") && !open.contains("(") ? 'L' : '!';
    }
}
