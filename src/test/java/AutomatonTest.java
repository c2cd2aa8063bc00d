import java.util.ArrayList;
import java.util.List;
import java.util.Random;
import java.util.TreeSet;
import java.util.regex.Matcher;
import java.util.regex.Pattern;

/** JUDGING: contents and DETERMINISTIC, held against the patterns of the Java library. */
public final class AutomatonTest {
    private static final int MOST_PLACES = 6;

    private final Random random;
    // The NAMES of the places: place i is the letter 'A' + i in a pattern of places.
    private final StringBuilder names = new StringBuilder();
    private final StringBuilder spec = new StringBuilder();
    private final StringBuilder pattern = new StringBuilder();

    private AutomatonTest(Random random) {
        this.random = random;
        group(0);
    }

    public static void main(String[] args) {
        Random random = new Random(5);
        int poor = 0;
        int fitting = 0;
        for (int run = 0; run < 1500; run++) {
            AutomatonTest test = new AutomatonTest(random);
            boolean deterministic = test.isDeterministic();
            poor += deterministic ? 0 : 1;
            for (int turn = 0; turn < 4; turn++) {
                fitting += test.judge(deterministic, test.row()) ? 1 : 0;
            }
        }
        Desk.due("whether there are enough of each kind", poor > 200 && poor < 1300 && fitting > 1000 && fitting < 5000 ? 1 : 0,
                1);
        Desk.end();
    }

    private void group(int depth) {
        String sign = random.nextBoolean() ? "," : "|";
        int parts = 1 + random.nextInt(3);
        spec.append('(');
        pattern.append('(');
        for (int i = 0; i < parts; i++) {
            if (i > 0) {
                spec.append(sign);
                pattern.append(sign.equals("|") ? "|" : "");
            }
            if (depth < 3 && names.length() < MOST_PLACES - 2 && random.nextInt(3) == 0) {
                group(depth + 1);
            } else {
                pattern.append((char) ('A' + names.length()));
                names.append("bcd".charAt(random.nextInt(3)));
                spec.append(names.charAt(names.length() - 1));
                sign();
            }
        }
        spec.append(')');
        pattern.append(')');
        sign();
    }

    private void sign() {
        String[] signs = {"", "", "?", "*", "+"};
        String sign = signs[random.nextInt(signs.length)];
        spec.append(sign);
        pattern.append(sign);
    }

    private Pattern namePattern() {
        StringBuilder all = new StringBuilder();
        for (int i = 0; i < pattern.length(); i++) {
            char c = pattern.charAt(i);
            all.append(c >= 'A' && c <= 'Z' ? names.charAt(c - 'A') : c);
        }
        return Pattern.compile(all.toString());
    }

    private static boolean begins(Pattern whole, String row) {
        Matcher matcher = whole.matcher(row);
        return matcher.matches() || matcher.hitEnd();
    }

    /** Of no row of NAMES, as far as it goes, could the next NAME be told by two different places. */
    private boolean isDeterministic() {
        Pattern whole = Pattern.compile(pattern.toString());
        List<String> rows = new ArrayList<>();
        rows.add("");
        for (int i = 0; i < rows.size() && rows.get(i).length() <= names.length(); i++) {
            TreeSet<Character> told = new TreeSet<>();
            for (int place = 0; place < names.length(); place++) {
                String row = rows.get(i) + (char) ('A' + place);
                if (begins(whole, row)) {
                    if (!told.add(names.charAt(place))) {
                        return false;
                    }
                    // While each NAME is told by one place, a row of places is a row of NAMES; one behind each last
                    // place is enough.
                    if (isNew(rows, row)) {
                        rows.add(row);
                    }
                }
            }
        }
        return true;
    }

    private static boolean isNew(List<String> rows, String row) {
        for (String other : rows) {
            if (!other.isEmpty() && other.charAt(other.length() - 1) == row.charAt(row.length() - 1)) {
                return false;
            }
        }
        return true;
    }

    /** A row of NAMES, now and then one that the SPEC tells. */
    private String row() {
        Pattern whole = namePattern();
        StringBuilder row = new StringBuilder();
        int size = random.nextInt(6);
        for (int i = 0; i < size; i++) {
            row.append("bcd".charAt(random.nextInt(3)));
            for (int turn = 0; turn < 6 && !begins(whole, row.toString()); turn++) {
                row.setCharAt(i, "bcd".charAt(random.nextInt(3)));
            }
        }
        return row.toString();
    }

    private boolean judge(boolean deterministic, String row) {
        boolean fits = namePattern().matcher(row).matches();
        StringBuilder content = new StringBuilder();
        for (int i = 0; i < row.length(); i++) {
            content.append('<').append(row.charAt(i)).append("/>");
        }
        String text = "<!DOCTYPE a [<!ELEMENT a " + spec + "><!ELEMENT b EMPTY><!ELEMENT c EMPTY><!ELEMENT d EMPTY>]><a>"
                + content + "</a>";
        Desk desk = new Desk();
        desk.read(text);
        String due = deterministic ? fits ? "" : "8:1" : fits ? "2:0" : "2:0 8:1";
        Desk.due("FINDINGS of " + text, desk.allFindings(), due);
        return fits;
    }
}
