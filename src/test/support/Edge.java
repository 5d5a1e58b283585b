import java.io.IOException;
import java.nio.charset.StandardCharsets;
import java.nio.file.Files;
import java.nio.file.Path;
import java.util.HashMap;
import java.util.Map;

/** What the tests of the document's boundary cases share. Each test begins with of(part, sentence): what it is for. */
final class Edge {
    static final int BAD = -1;
    static final int NO = -2;
    static final int FULL = -3;
    static final int NONE = -4;
    static final int LOW = Integer.MIN_VALUE;
    static final int HIGH = Integer.MAX_VALUE;

    static final String FIRST_TEXT =
        "nab:+p128/2,+iac,~had,-a;nac:?p0/7,+mab,reb;neb:+e%2d%l,-a;aad:7,200;xab:ad,eb;aab:9;aebb:1;";

    private static final Path DOCUMENT = Path.of("..", "shared", "DOC.md");
    private static final Map<String, String> PARTS = parts();

    private static String place = "";
    private static int tests = 0;
    private static int dues = 0;
    private static int duesBefore = 0;
    private static int wrong = 0;

    private Edge() {
    }

    /** The text of each part by its title, with single spaces: "Promise 2", "RECORDS", "The public face" and so on. */
    private static Map<String, String> parts() {
        Map<String, String> parts = new HashMap<>();
        if (!Files.isReadable(DOCUMENT)) {
            System.out.println(DOCUMENT + " can't be read: the quoted sentences aren't compared with it");
            return parts;
        }
        try {
            String title = "";
            for (String line : Files.readString(DOCUMENT, StandardCharsets.UTF_8).split("\n")) {
                if (line.startsWith("## ")) {
                    title = line.substring(3).replaceFirst(":.*", "");
                } else if (line.matches("[A-Z]{4,}")) {
                    title = line;
                } else {
                    parts.merge(title, line, (a, b) -> (a + " " + b).replaceAll("\\s+", " "));
                }
            }
        } catch (IOException e) {
            throw new IllegalStateException(e);
        }
        return parts;
    }

    static void of(String part, String sentence) {
        endOfTest();
        tests++;
        place = part + ", \"" + sentence + "\"";
        if (!PARTS.isEmpty() && !PARTS.getOrDefault(part, "").contains(sentence)) {
            fail("the document has no such sentence there");
        }
    }

    private static void endOfTest() {
        if (tests > 0 && dues == duesBefore) {
            fail("the test asks nothing");
        }
        duesBefore = dues;
    }

    private static void fail(String what) {
        wrong++;
        System.out.println(place + ": " + what);
    }

    static void due(String call, int got, int want) {
        dues++;
        if (got != want) {
            fail(call + " answered " + got + ", due is " + want);
        }
    }

    static void due(String call, String got, String want) {
        dues++;
        if (!got.equals(want)) {
            fail(call + " is " + got + ", due is " + want);
        }
    }

    static void end(String name) {
        endOfTest();
        System.out.println(name + ": " + tests + " sentences, " + dues + " answers, " + wrong + " not as due");
        if (wrong != 0) {
            System.exit(1);
        }
        tests = 0;
        dues = 0;
        duesBefore = 0;
    }

    static void type(SendRules x, String text) {
        x.wipe();
        for (int k = 0; k < text.length(); k++) {
            x.write(text.charAt(k));
        }
    }

    static SendRules typed(String text) {
        SendRules x = new SendRules();
        type(x, text);
        return x;
    }

    static SendRules laid(String text) {
        SendRules x = typed(text);
        due("lay of " + text + " is at least 1", Math.min(x.lay(), 1), 1);
        return x;
    }

    static int number(SendRules x, String name) {
        type(x, name);
        return x.named(0);
    }

    /** The text as it is and behind another item: it has no error. */
    static void good(String... texts) {
        for (String text : texts) {
            due("fault of " + text, typed(text).fault(), NONE);
            due("fault of xh:a;" + text, typed("xh:a;" + text).fault(), NONE);
        }
    }

    /** The text as it is and behind another item: its error is at its beginning, and lay() refuses it. */
    static void bad(String... texts) {
        for (String text : texts) {
            due("fault of " + text, typed(text).fault(), 0);
            SendRules x = typed("nh:+a;" + text);
            due("fault of nh:+a;" + text, x.fault(), 6);
            due("lay of nh:+a;" + text, x.lay(), NO);
        }
    }

    /** A check with its result, lookups and empty lookups, and the name and the index of the deciding rule. */
    static void check(SendRules x, String name, int address, int letter, int[] values, String decider, int rule) {
        int number = number(x, name);
        int decidingNumber = decider == null ? NONE : number(x, decider);
        String what = "check of " + name + " for " + address + ", " + letter;
        due(what, x.check(number, address, letter), values[0]);
        int[] all = {number, address, letter, values[0], values[1], values[2], decidingNumber, rule};
        for (int k = 0; k < all.length; k++) {
            due(what + ", value " + k, x.kept(0, k), all[k]);
        }
    }

    /** A check without a deciding rule. */
    static void check(SendRules x, String name, int address, int letter, int[] values) {
        check(x, name, address, letter, values, null, NONE);
    }

    static int[] is(int result, int lookups, int empty) {
        return new int[] {result, lookups, empty};
    }

    static String hosts(SendRules x, int name) {
        StringBuilder b = new StringBuilder();
        for (int k = 0; k < x.name(name, 2); k++) {
            b.append(k == 0 ? "" : ",").append(x.hostOf(name, k));
        }
        return b.toString();
    }

    static String rules(SendRules x, int name) {
        StringBuilder b = new StringBuilder();
        for (int r = 0; r < x.name(name, 1); r++) {
            b.append(r == 0 ? "" : ",").append("+-~?".charAt(x.rule(name, r, 0))).append("apihme".charAt(x.rule(name, r, 1)));
            if (x.rule(name, r, 1) == 1) {
                b.append(x.rule(name, r, 2)).append('/').append(x.rule(name, r, 3));
            }
            b.append(x.rule(name, r, 4) == NONE ? "" : "" + x.rule(name, r, 4));
        }
        return b.toString();
    }

    /** All records, as far as the calls tell them. */
    static String records(SendRules x) {
        StringBuilder b = new StringBuilder();
        for (int n = 0; n < x.count(0); n++) {
            for (int k = 0; k < x.name(n, 0); k++) {
                b.append((char) ('a' + x.letter(n, k)));
            }
            b.append(' ').append(rules(x, n)).append(" r").append(x.name(n, 4)).append(" p").append(x.name(n, 5));
            b.append(" a").append(hosts(x, n)).append(" x").append(x.name(n, 3)).append("; ");
        }
        return b.toString();
    }

    /** All kept checks with their values. */
    static String keptChecks(SendRules x) {
        StringBuilder b = new StringBuilder();
        for (int k = 0; k < x.count(4); k++) {
            for (int what = 0; what < 8; what++) {
                b.append(x.kept(k, what)).append(what < 7 ? " " : "; ");
            }
        }
        return b.toString();
    }

    static String state(SendRules x) {
        StringBuilder b = new StringBuilder();
        for (int what = 0; what < 7; what++) {
            b.append(x.count(what)).append(' ');
        }
        return b.append("| ").append(records(x)).append("| ").append(keptChecks(x)).toString();
    }
}
