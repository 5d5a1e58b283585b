import java.util.function.ToIntFunction;

/** The boundary cases that 'What it is', 'The public face' and CONVENTIONS name, a test for each sentence. */
public final class ConventionsEdges {
    private static void calls512() {
        Edge.of("What it is", "An object is used for at most 512 calls after it has been made");
        SendRules x = new SendRules();
        for (int k = 0; k < 255; k++) {
            x.sign(0, 0, 1 + k % 3);
            x.undo();
        }
        Edge.due("the 511th call", x.sign(0, 0, 2), 0);
        Edge.due("the 512th call", x.rule(0, 0, 0), 2);
        x = new SendRules();
        for (int k = 0; k < 511; k++) {
            x.check(k % 5, k / 2, k % 16);
        }
        Edge.due("the 512th call", x.kept(3, 1), 507 / 2);
        x = new SendRules();
        for (int k = 0; k < 240; k++) {
            x.write('a');
        }
        x.wipe();
        for (int k = 0; k < 240; k++) {
            x.write('b');
        }
        for (int k = 481; k < 511; k++) {
            x.write('c');
        }
        Edge.due("the 512th call", x.count(6), 240);
        x = new SendRules();
        for (int k = 0; k < 511; k++) {
            x.many(0, 1, 2);
        }
        Edge.due("the 512th call", x.many(1, 15, 0), 256);
    }

    private static void constants() {
        Edge.of("The public face", "public static final int BAD = -1, NO = -2, NONE = -4, FULL = -3;");
        Edge.due("BAD", SendRules.BAD, -1);
        Edge.due("NO", SendRules.NO, -2);
        Edge.due("FULL", SendRules.FULL, -3);
        Edge.due("NONE", SendRules.NONE, -4);
    }

    private static void sets() {
        Edge.of("CONVENTIONS", "Sets are bit masks, in which bit k stands for number k.");
        SendRules x = Edge.laid("na:+ho,+a;nb:+p1/8,+p2/8,+p3/8,+p4/8,+p5/8,+p6/8,+p7/8,+p1/8;nc:+a;");
        Edge.due("rule 0 alone never decides", x.dead(0, 0), 1);
        Edge.due("rule 7 alone never decides", x.dead(1, 0), 1 << 7);
        Edge.due("no rule is in the set", x.dead(2, 0), 0);
        x = Edge.laid("na:+il;ab:1;ac:1;ad:1;ae:1;af:1;ag:1;ah:1;ai:1;aj:1;nk:+ia;nl:+a;");
        Edge.due("name 11 alone", x.leads(0), 1 << 11);
        Edge.due("name 0, and name 11 by it", x.leads(10), 1 | 1 << 11);
        Edge.due("no name is in the set", x.leads(11), 0);
    }

    private static void bad() {
        Edge.of("CONVENTIONS", "BAD (-1), an argument is out of range or names something that does not exist");
        SendRules x = new SendRules();
        Edge.due("an address out of range", x.check(0, 256, 0), -1);
        Edge.due("the last name", x.name(4, 0), 2);
        Edge.due("a name that does not exist", x.name(5, 0), -1);
        Edge.due("the last rule", x.rule(0, 3, 1), 0);
        Edge.due("a rule that does not exist", x.rule(0, 4, 1), -1);
        Edge.due("a rule of a name without a policy", x.rule(1, 0, 1), -1);
    }

    private static void no() {
        Edge.of("CONVENTIONS", "NO (-2), the call is not possible now, as the method says");
        SendRules x = new SendRules();
        Edge.due("undo without a change", x.undo(), -2);
        x.sign(0, 0, 1);
        Edge.due("undo with a change", x.undo(), 0);
        Edge.due("undo without a change again", x.undo(), -2);
    }

    private static void full() {
        Edge.of("CONVENTIONS", "FULL (-3), a maximum would be exceeded");
        SendRules x = new SendRules();
        for (int k = 1; k <= 3; k++) {
            Edge.due("up to the maximum", x.host(0, k, 1), k + 1);
        }
        Edge.due("beyond the maximum", x.host(0, 4, 1), -3);
    }

    private static void firstOfSeveral() {
        Edge.of("CONVENTIONS", "If several of them apply to one call, the first one in this list is returned.");
        SendRules x = Edge.laid("na:+ia,-a;ab:1,2,3,4;");
        Edge.due("named, BAD and NO", x.named(3), -1);
        Edge.due("sign with the same sign, BAD and NO", x.sign(2, 0, 0), -1);
        Edge.due("swap behind the last rule, BAD and NO", x.swap(0, 2), -1);
        Edge.due("host, no such name and none to remove", x.host(2, 9, 0), -1);
        Edge.due("host, no such address and none to remove", x.host(1, 256, 0), -1);
        Edge.due("host, BAD and FULL", x.host(1, 256, 1), -1);
        Edge.due("host, NO and FULL", x.host(1, 4, 1), -2);
        Edge.due("host, FULL alone", x.host(1, 5, 1), -3);
        Edge.due("lookups, BAD by the name and FULL", x.lookups(2, 0, Edge.HIGH, 0), -1);
        Edge.due("lookups, BAD by the letter and FULL", x.lookups(0, 16, Edge.HIGH, 0), -1);
        Edge.due("lookups, BAD by what and FULL", x.lookups(0, 0, Edge.HIGH, 2), -1);
        Edge.due("lookups, FULL alone", x.lookups(0, 0, Edge.HIGH, 0), -3);
        x = new SendRules();
        for (int k = 0; k < 240; k++) {
            x.write('a');
        }
        Edge.due("write, BAD and FULL", x.write(127), -1);
        Edge.due("write, BAD and FULL", x.write(31), -1);
        Edge.due("write, FULL alone", x.write(32), -3);
    }

    private static void noneIsLast() {
        Edge.of("CONVENTIONS", "NONE (-4) means that there is no such value; it is returned only if neither BAD nor NO nor FULL applies.");
        SendRules x = Edge.laid("na:+a;ab:1;");
        Edge.due("kept, too many and a wrong what", x.kept(0, 8), -1);
        Edge.due("kept, NONE alone", x.kept(0, 7), -4);
        Edge.due("letter, too far and no such name", x.letter(2, 7), -1);
        Edge.due("letter, NONE alone", x.letter(1, 7), -4);
        Edge.due("hostOf, too far and no such name", x.hostOf(2, 4), -1);
        Edge.due("hostOf, NONE alone", x.hostOf(1, 4), -4);
        Edge.due("name, the redirect of no such name", x.name(2, 4), -1);
        Edge.due("name, NONE alone", x.name(1, 4), -4);
        Edge.due("rule, A of no such rule", x.rule(0, 1, 2), -1);
        Edge.due("rule, NONE alone", x.rule(0, 0, 2), -4);
        Edge.type(x, "q");
        Edge.due("named, not a name", x.named(0), -2);
        Edge.type(x, "c");
        Edge.due("named, not known and a wrong what", x.named(-1), -1);
        Edge.due("named, NONE alone", x.named(0), -4);
    }

    /** An object with something of all: changed records, two changes to undo, two kept checks and a text. */
    private static SendRules full(String text) {
        SendRules x = new SendRules();
        x.host(0, 1, 1);
        x.sign(3, 0, 1);
        x.check(0, 7, 3);
        x.check(3, 200, 15);
        Edge.type(x, text);
        return x;
    }

    private static void changesNothing(String call, String text, int code, ToIntFunction<SendRules> refused) {
        SendRules x = full(text);
        String before = Edge.state(x);
        Edge.due(call, refused.applyAsInt(x), code);
        Edge.due("the state after " + call, Edge.state(x), before);
        Edge.due("the text after " + call, x.fault(), Edge.typed(text).fault());
        Edge.due("undo after " + call, x.undo() * 10 + x.undo(), 10);
        Edge.due("the records after " + call, Edge.records(x), Edge.records(new SendRules()));
    }

    private static void changesNothing() {
        Edge.of("CONVENTIONS", "A call that returns an error code changes nothing.");
        changesNothing("write(31)", "na:+a;b", -1, x -> x.write(31));
        changesNothing("write(127)", "na:+a;b", -1, x -> x.write(127));
        changesNothing("lay of an error", "na:+a;b", -2, x -> x.lay());
        changesNothing("lay of a 13th name", "nl:+a;nk:+a;aj:1;ai:1;ah:1;ag:1;af:1;ae:1;ad:1;ac:1;ab:1;aa:1;am:1;", -2,
            x -> x.lay());
        changesNothing("lay without a policy", "aa:1;xb:c;", -2, x -> x.lay());
        changesNothing("lay of nothing", "", -2, x -> x.lay());
        changesNothing("named(3)", "ab", -1, x -> x.named(3));
        changesNothing("named without a name", "na:+a;", -2, x -> x.named(0));
        changesNothing("check of no such name", "", -1, x -> x.check(5, 0, 0));
        changesNothing("check of no such address", "", -1, x -> x.check(0, 256, 0));
        changesNothing("check of no such letter", "", -1, x -> x.check(0, 0, 16));
        changesNothing("kept(-1, 0)", "", -1, x -> x.kept(-1, 0));
        changesNothing("kept(0, 8)", "", -1, x -> x.kept(0, 8));
        changesNothing("sign of no such name", "", -1, x -> x.sign(5, 0, 1));
        changesNothing("sign of no such rule", "", -1, x -> x.sign(0, 4, 0));
        changesNothing("no such sign", "", -1, x -> x.sign(0, 0, 4));
        changesNothing("the same sign", "", -2, x -> x.sign(0, 0, 0));
        changesNothing("swap of no such name", "", -1, x -> x.swap(5, 0));
        changesNothing("swap of no such rule", "", -1, x -> x.swap(0, 4));
        changesNothing("swap of the last rule", "", -2, x -> x.swap(0, 3));
        changesNothing("host of no such name", "", -1, x -> x.host(5, 1, 1));
        changesNothing("host of no such address", "", -1, x -> x.host(0, 256, 1));
        changesNothing("host with no such is", "", -1, x -> x.host(0, 1, 2));
        changesNothing("host that is there", "", -2, x -> x.host(0, 9, 1));
        changesNothing("host that isn't there", "", -2, x -> x.host(0, 8, 0));
    }

    private static void changesNothingElse() {
        Edge.of("CONVENTIONS", "A call that returns an error code changes nothing.");
        changesNothing("name(0, 6)", "", -1, x -> x.name(0, 6));
        changesNothing("letter(0, -1)", "", -1, x -> x.letter(0, -1));
        changesNothing("rule(0, 0, 5)", "", -1, x -> x.rule(0, 0, 5));
        changesNothing("hostOf(0, -1)", "", -1, x -> x.hostOf(0, -1));
        changesNothing("many(0, 0, 6)", "", -1, x -> x.many(0, 0, 6));
        changesNothing("dead(0, 16)", "", -1, x -> x.dead(0, 16));
        changesNothing("lookups(0, 0, -1, 0)", "", -1, x -> x.lookups(0, 0, -1, 0));
        changesNothing("lookups(0, 0, HIGH, 0)", "", -3, x -> x.lookups(0, 0, Edge.HIGH, 0));
        changesNothing("leads(5)", "", -1, x -> x.leads(5));
        changesNothing("count(7)", "", -1, x -> x.count(7));
        SendRules x = Edge.laid("na:+a;ab:1,2,3,4;");
        x.check(0, 1, 2);
        String before = Edge.state(x);
        Edge.due("a fifth host", x.host(1, 5, 1), -3);
        Edge.due("the state after a fifth host", Edge.state(x), before);
        Edge.due("undo without a change", x.undo(), -2);
        Edge.due("the state after undo without a change", Edge.state(x), before);
        x = Edge.typed("na:+a;" + "ab:11;".repeat(39));
        Edge.due("the 241st character", x.write(';'), -3);
        Edge.due("the length after it", x.count(6), 240);
        Edge.due("the error after it", x.fault(), -4);
    }

    public static void main(String[] args) {
        calls512();
        constants();
        sets();
        bad();
        no();
        full();
        firstOfSeveral();
        noneIsLast();
        changesNothing();
        changesNothingElse();
        Edge.end("ConventionsEdges");
    }
}
