/** The ranges of all arguments: for each line of a promise that tells one, its first and last value and those beyond. */
public final class ArgumentsEdges {
    private interface Call {
        int of(SendRules x, int value);
    }

    private static final String FIVE = Edge.FIRST_TEXT;
    private static final String ONE = "na:+a,-a;";
    private static final String TWELVE = "na:+a,-a;nb:+a,-a;nc:+a,-a;nd:+a,-a;ne:+a,-a;nf:+a,-a;ng:+a,-a;nh:+a,-a;ni:+a,-a;nj:+a,-a;"
        + "nk:+a,-a;nl:+a,-a;";

    private static int isBad(int answer) {
        return answer == Edge.BAD ? 1 : 0;
    }

    private static void values(String text, int first, int last, Call call) {
        for (long value = first; value <= last; value = value < first + 300L ? value + 1 : Math.max(value + 1, last)) {
            Edge.due("that the value " + value + " is refused", isBad(call.of(Edge.laid(text), (int) value)), 0);
        }
        long[] beyond = {first - 1L, first - 2L, first - 256L, first - 65536L, Edge.LOW, last + 1L, last + 2L, last + 256L,
            last + 65536L, Edge.HIGH};
        for (long value : beyond) {
            boolean isInt = value >= Edge.LOW && value <= Edge.HIGH;
            if (isInt && (value < first || value > last)) {
                Edge.due("that the value " + value + " is refused", isBad(call.of(Edge.laid(text), (int) value)), 1);
            }
        }
    }

    private static void range(int promise, String sentence, int first, int last, Call call) {
        Edge.of("Promise " + promise, sentence);
        values(FIVE, first, last, call);
    }

    /** The known names, of one, of five and of twelve. */
    private static void name(int promise, Call call) {
        Edge.of("Promise " + promise, "`name`: a known name");
        values(ONE, 0, 0, call);
        values(TWELVE, 0, 11, call);
        if (promise != 9 && promise != 10 && promise != 15) {
            values(FIVE, 0, 4, call);
        }
    }

    private static void texts() {
        range(2, "`letter`: its code, 32 to 126", 32, 126, (x, v) -> x.write(v));
        range(6, "`what`: 0 for the number of this name", 0, 2, (x, v) -> namedInName(x, v));
    }

    private static int namedInName(SendRules x, int what) {
        Edge.type(x, "eb");
        return x.named(what);
    }

    private static int keptAfterCheck(SendRules x, int what) {
        x.check(0, 0, 0);
        return x.kept(0, what);
    }

    private static void checks() {
        name(7, (x, v) -> x.check(v, 0, 0));
        range(7, "`address`: the address, 0 to 255", 0, 255, (x, v) -> x.check(0, v, 0));
        range(7, "`letter`: the letter, 0 to 15", 0, 15, (x, v) -> x.check(0, 0, v));
        range(8, "`k`: the index of the check, 0 for the latest one", 0, Edge.HIGH, (x, v) -> x.kept(v, 0));
        range(8, "`what`: 0 the name, 1 the address", 0, 7, (x, v) -> x.kept(0, v));
        range(8, "`what`: 0 the name, 1 the address", 0, 7, (x, v) -> keptAfterCheck(x, v));
    }

    private static void changes() {
        name(9, (x, v) -> x.sign(v, 0, 1));
        range(9, "`rule`: the index of a rule of its policy, from 0", 0, 3, (x, v) -> x.sign(0, v, 3));
        range(9, "`sign`: the new sign: 0 for +, 1 for -, 2 for ~, 3 for ?", 0, 3, (x, v) -> x.sign(0, 0, v));
        name(10, (x, v) -> x.swap(v, 0));
        range(10, "`rule`: the index of a rule of its policy, from 0", 0, 3, (x, v) -> x.swap(0, v));
        name(11, (x, v) -> x.host(v, 3, 1));
        range(11, "`address`: the address, 0 to 255", 0, 255, (x, v) -> x.host(0, v, 1));
        range(11, "`address`: the address, 0 to 255", 0, 255, (x, v) -> x.host(0, v, 0));
        range(11, "`is`: 1 to add it, 0 to remove it", 0, 1, (x, v) -> x.host(0, 9, v));
        range(11, "`is`: 1 to add it, 0 to remove it", 0, 1, (x, v) -> x.host(0, 8, v));
    }

    private static void properties() {
        name(13, (x, v) -> x.name(v, 5));
        range(13, "`what`: 0 the number of its letters", 0, 5, (x, v) -> x.name(0, v));
        name(14, (x, v) -> x.letter(v, 0));
        range(14, "`k`: the index of the letter, from 0", 0, Edge.HIGH, (x, v) -> x.letter(0, v));
        name(15, (x, v) -> x.rule(v, 0, 0));
        range(15, "`rule`: the index of a rule of its policy, from 0", 0, 3, (x, v) -> x.rule(0, v, 0));
        range(15, "`what`: 0 its sign", 0, 4, (x, v) -> x.rule(0, 0, v));
        name(16, (x, v) -> x.hostOf(v, 0));
        range(16, "`k`: the index of the host, from 0", 0, Edge.HIGH, (x, v) -> x.hostOf(0, v));
        range(21, "`what`: 0 known names", 0, 6, (x, v) -> x.count(v));
    }

    private static void allAddresses() {
        name(17, (x, v) -> x.many(v, 0, 0));
        range(17, "`letter`: the letter, 0 to 15", 0, 15, (x, v) -> x.many(0, v, 0));
        range(17, "`answer`: the result, 0 to 5", 0, 5, (x, v) -> x.many(0, 0, v));
        name(18, (x, v) -> x.dead(v, 0));
        range(18, "`letter`: the letter, 0 to 15", 0, 15, (x, v) -> x.dead(0, v));
        name(19, (x, v) -> x.lookups(v, 0, 1, 0));
        name(19, (x, v) -> x.lookups(v, 0, 1, 1));
        range(19, "`letter`: the letter, 0 to 15", 0, 15, (x, v) -> x.lookups(0, v, 1, 0));
        range(19, "`letter`: the letter, 0 to 15", 0, 15, (x, v) -> x.lookups(0, v, 1, 1));
        range(19, "`n`: a factor, 0 or more", 0, Edge.HIGH, (x, v) -> x.lookups(0, 0, v, 0));
        range(19, "ignored if what is 1", Edge.LOW, Edge.HIGH, (x, v) -> x.lookups(0, 0, v, 1));
        range(19, "`what`: 0 for n times the sum; 1 for the sum divided by 256", 0, 1, (x, v) -> x.lookups(0, 0, 1, v));
        name(20, (x, v) -> x.leads(v));
    }

    public static void main(String[] args) {
        texts();
        checks();
        changes();
        properties();
        allAddresses();
        Edge.end("ArgumentsEdges");
    }
}
