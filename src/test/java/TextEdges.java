/** The boundary cases of the promises about a new object and the text, 1 to 6, a test for each sentence. */
public final class TextEdges {
    private static void newObject() {
        Edge.of("Promise 1", "Creates an object with the records described above, an empty text and no kept checks.");
        SendRules x = new SendRules();
        int[] counts = {5, 3, 8, 4, 0, 0, 0};
        for (int what = 0; what < counts.length; what++) {
            Edge.due("count " + what, x.count(what), counts[what]);
        }
        Edge.due("a kept check", x.kept(0, 0), Edge.NONE);
        Edge.due("a change to undo", x.undo(), Edge.NO);
        Edge.due("the records", Edge.records(x), Edge.records(Edge.laid(Edge.FIRST_TEXT)));
        Edge.due("the text's error", x.fault(), Edge.NONE);
        Edge.due("the text as a name", x.named(0), Edge.NO);
        Edge.due("the text as records", x.lay(), Edge.NO);
        Edge.due("the text's length", x.wipe(), 0);
        SendRules y = new SendRules();
        y.host(0, 1, 1);
        y.sign(0, 0, 3);
        y.swap(3, 0);
        y.write('a');
        y.check(0, 0, 0);
        Edge.due("the records of another object", Edge.records(x), Edge.records(new SendRules()));
        Edge.due("kept checks of another object", x.count(4), 0);
        Edge.due("text of another object", x.count(6), 0);
    }

    private static void writeAppends() {
        Edge.of("Promise 2", "Appends a character to the text.");
        SendRules x = new SendRules();
        x.write('e');
        Edge.due("e", x.named(0), Edge.NONE);
        x.write('b');
        Edge.due("eb", x.named(0), 2);
        x.write('b');
        Edge.due("ebb", x.named(0), 1);
        x = Edge.typed("na:+a;" + "ab:11;".repeat(38) + "ab:77");
        Edge.due("before the 240th", x.fault(), 234);
        Edge.due("the 240th", x.write(';'), 240);
        Edge.due("it is the text's end", x.fault(), Edge.NONE);
    }

    private static void writeRange() {
        Edge.of("Promise 2", "letter`: its code, 32 to 126");
        SendRules x = new SendRules();
        for (int code = 32; code <= 126; code++) {
            Edge.due("write " + code, x.write(code), code - 31);
        }
        Edge.of("Promise 2", "BAD if letter is out of range");
        for (int code : new int[] {31, 127, 128, 255, 0, -1, -32, 'a' + 256, 'a' + 65536, 'a' - 65536, Edge.LOW, Edge.HIGH}) {
            Edge.due("write " + code, x.write(code), Edge.BAD);
        }
        Edge.due("the length", x.count(6), 95);
    }

    private static void writeLength() {
        Edge.of("Promise 2", "Returns the new length of the text");
        SendRules x = new SendRules();
        for (int k = 1; k <= 240; k++) {
            Edge.due("write " + k, x.write('a'), k);
        }
        Edge.of("Promise 2", "FULL if the text has 240 characters already");
        Edge.due("write 241", x.write('a'), Edge.FULL);
        Edge.due("write 241 again", x.write(126), Edge.FULL);
        Edge.due("the length", x.count(6), 240);
        Edge.due("wipe", x.wipe(), 240);
        Edge.due("write after wipe", x.write('a'), 1);
    }

    private static void wipe() {
        Edge.of("Promise 3", "Empties the text.");
        SendRules x = Edge.typed("na:+b;");
        x.wipe();
        Edge.due("the length", x.count(6), 0);
        Edge.due("the error is gone", x.fault(), Edge.NONE);
        Edge.due("no name is left", x.named(0), Edge.NO);
        x.write('e');
        x.write('b');
        Edge.due("the new text alone", x.named(0), 2);
        Edge.type(x, "na:+a;");
        Edge.type(x, "na:+a");
        Edge.due("the old text's end isn't read", x.fault(), 0);
        Edge.type(x, "ebbbb");
        Edge.type(x, "ebb");
        Edge.due("the old text's letters aren't read", x.named(0), 1);
        Edge.of("Promise 3", "Returns the length that it had.");
        x = new SendRules();
        Edge.due("wipe of an empty text", x.wipe(), 0);
        Edge.due("wipe of an empty text again", x.wipe(), 0);
        x.write('a');
        Edge.due("wipe of one character", x.wipe(), 1);
        for (int k = 0; k < 240; k++) {
            x.write('a');
        }
        Edge.due("wipe of 240 characters", x.wipe(), 240);
        Edge.due("wipe again", x.wipe(), 0);
    }

    private static void fault() {
        Edge.of("Promise 4", "Returns the position; NONE if there is no error.");
        Edge.due("the empty text", new SendRules().fault(), Edge.NONE);
        Edge.due("one item", Edge.typed("na:+a;").fault(), Edge.NONE);
        Edge.due("no policy is no error", Edge.typed("aa:1;").fault(), Edge.NONE);
        Edge.due("position 0", Edge.typed("n").fault(), 0);
        Edge.due("position 5", Edge.typed("aa:1;n").fault(), 5);
        Edge.due("position 239", Edge.typed("xa:b;".repeat(46) + "aa:1,1,1;" + "n").fault(), 239);
        SendRules x = Edge.typed("na:+a;ab:1;x");
        String before = Edge.records(x);
        Edge.due("fault", x.fault(), 11);
        Edge.due("fault again", x.fault(), 11);
        Edge.due("it reads no records", Edge.records(x), before);
        x = Edge.typed("na:+a;ab:1;");
        Edge.due("fault of a good text", x.fault(), Edge.NONE);
        Edge.due("it reads no records", Edge.records(x), before);
        Edge.due("the text stays", x.count(6), 11);
    }

    private static void layReplaces() {
        Edge.of("Promise 5", "Reads the text as records, which replace all present ones.");
        SendRules x = Edge.laid("nb:-a;xa:b;");
        Edge.due("the records", Edge.records(x), "a  r-4 p0 a x1; b -a r-4 p1 a x0; ");
        Edge.type(x, "na:+ib,+a,+a,rb;aa:1,2,3,4;xa:b,b,b;nb:+a;nc:+a;");
        x.lay();
        Edge.type(x, "nb:-a;");
        x.lay();
        Edge.due("nothing of the former ones is left", Edge.records(x), "b -a r-4 p1 a x0; ");
        Edge.type(x, "na:+ib,+e%d,rb;aa:1,2;xa:b;nb:+a,rb;");
        x.lay();
        x.lay();
        Edge.type(x, "aa:9;xb:a;nc:+a;");
        x.lay();
        Edge.due("nothing of earlier ones is left", Edge.records(x), "a  r-4 p0 a9 x0; b  r-4 p0 a x1; c +a r-4 p1 a x0; ");
        Edge.due("nor does it lead", x.leads(0) + x.leads(1), 0);
        Edge.type(x, "nb:-a;na:+a;");
        x.lay();
        Edge.due("nor of those before", Edge.records(x), "a +a r-4 p1 a x0; b -a r-4 p1 a x0; ");
        x.lay();
        Edge.due("the same text again", Edge.records(x), "a +a r-4 p1 a x0; b -a r-4 p1 a x0; ");
        Edge.type(x, "nb:+eabcdefgh,-a;aa:1;abcdefgh:1;");
        x.lay();
        Edge.type(x, "nb:+ea,-a;aa:1;");
        x.lay();
        Edge.due("a shorter macro", x.check(1, 0, 0), 2);
        x.host(0, 1, 0);
        x.sign(1, 0, 3);
        x.swap(1, 0);
        x.lay();
        Edge.due("changes are replaced too", Edge.records(x), "a  r-4 p0 a1 x0; b +e,-a r-4 p1 a x0; ");
    }

    private static void layRefused() {
        Edge.of("Promise 5", "NO if the text has an error or no name has a policy");
        SendRules x = Edge.laid("na:+a;ab:1;");
        String before = Edge.records(x);
        for (String text : new String[] {"nb:-a;nc:-a;x", "ac:1;xd:a;", "na:-p1/1,-a;nb:-a;,"}) {
            Edge.type(x, text);
            Edge.due("lay of " + text, x.lay(), Edge.NO);
            Edge.due("the records after it", Edge.records(x), before);
        }
        Edge.of("Promise 4", "Returns the error of the text.");
        Edge.type(x, "nb:-a;nc:-a;x");
        Edge.due("fault", x.fault(), 12);
        Edge.due("the records after it", Edge.records(x), before);
        Edge.type(x, "nb:-a;nc:-a;");
        Edge.due("fault", x.fault(), Edge.NONE);
        Edge.due("the records after it", Edge.records(x), before);
    }

    private static void layForgets() {
        Edge.of("Promise 5", "No checks are kept, and no change can be undone.");
        SendRules x = new SendRules();
        for (int k = 0; k < 4; k++) {
            x.sign(0, k, 3);
        }
        for (int k = 0; k < 5; k++) {
            x.check(0, k, 0);
        }
        Edge.due("changes before", x.count(5), 4);
        Edge.due("checks before", x.count(4), 4);
        Edge.type(x, "na:+a;");
        x.lay();
        Edge.due("changes", x.count(5), 0);
        Edge.due("undo", x.undo(), Edge.NO);
        Edge.due("checks", x.count(4), 0);
        Edge.due("kept", x.kept(0, 0), Edge.NONE);
        x.sign(0, 0, 1);
        Edge.due("undo after a change", x.undo(), 0);
        Edge.due("undo again", x.undo(), Edge.NO);
    }

    private static void layLeavesText() {
        Edge.of("Promise 5", "The text stays.");
        SendRules x = Edge.laid("na:+a;ab:1;");
        Edge.due("the length", x.count(6), 11);
        Edge.due("lay again", x.lay(), 2);
        x.write('n');
        Edge.due("a refused lay", x.lay(), Edge.NO);
        Edge.due("the length", x.count(6), 12);
        Edge.due("the error", x.fault(), 11);
    }

    private static void layAnswers() {
        Edge.of("Promise 5", "Returns the number of known names");
        Edge.due("one name", Edge.typed("na:+a;").lay(), 1);
        Edge.due("one name with all records", Edge.typed("na:+ib,rc;aa:1;xa:d;").lay(), 1);
        Edge.due("two names, one policy", Edge.typed("na:+a;ab:1;").lay(), 2);
        Edge.due("12 names", Edge.typed("aa:1;ab:1;ac:1;ad:1;ae:1;af:1;ag:1;ah:1;ai:1;aj:1;ak:1;nl:+a;").lay(), 12);
        Edge.of("Promise 5", "NO if the text has an error or no name has a policy");
        for (String text : new String[] {"", "aa:1;", "xa:b;", "aa:1;xb:a;", "na:+a", "na:+a;x", "n", ";", "na:+a;;",
            "na:+a;ab:1;ac:1;ad:1;ae:1;af:1;ag:1;ah:1;ai:1;aj:1;ak:1;al:1;am:1;"}) {
            SendRules x = Edge.typed(text);
            Edge.due("lay of " + text, x.lay(), Edge.NO);
            Edge.due("known names after it", x.count(0), 5);
        }
    }

    private static void named(SendRules x, String text, int exact, int before, int behind) {
        Edge.type(x, text);
        Edge.due("named(0) of " + text, x.named(0), exact);
        Edge.due("named(1) of " + text, x.named(1), before);
        Edge.due("named(2) of " + text, x.named(2), behind);
    }

    private static void namedFinds() {
        Edge.of("Promise 6", "0 for the number of this name, 1 for the last known name in their order that is not after it, "
            + "2 for the first one that is not before it");
        SendRules x = Edge.laid("nab:+a;aeb:1;aebb:1;aac:1;aad:1;");
        String[] names = {"ab", "ebb", "eb", "ac", "ad"};
        for (int k = 0; k < names.length; k++) {
            named(x, names[k], k, k, k);
        }
        named(x, "bb", Edge.NONE, 0, 1);
        named(x, "pbb", Edge.NONE, 1, 2);
        named(x, "aebb", Edge.NONE, 1, 2);
        named(x, "aeb", Edge.NONE, 2, 3);
        named(x, "c", Edge.NONE, 2, 3);
        named(x, "bc", Edge.NONE, 3, 4);
        named(x, "d", Edge.NONE, 3, 4);
        Edge.of("Promise 6", "NONE if there is no such name");
        named(x, "a", Edge.NONE, Edge.NONE, 0);
        named(x, "b", Edge.NONE, Edge.NONE, 0);
        named(x, "ppppppa", Edge.NONE, Edge.NONE, 0);
        named(x, "aad", Edge.NONE, 4, Edge.NONE);
        named(x, "bd", Edge.NONE, 4, Edge.NONE);
        named(x, "p", Edge.NONE, 4, Edge.NONE);
        named(x, "ppppppp", Edge.NONE, 4, Edge.NONE);
        x = Edge.laid("nppppppp:+a;");
        named(x, "ppppppp", 0, 0, 0);
        named(x, "pppppp", Edge.NONE, Edge.NONE, 0);
        x = Edge.laid("na:+a;");
        named(x, "a", 0, 0, 0);
        named(x, "aa", Edge.NONE, 0, Edge.NONE);
        named(x, "aaaaaaa", Edge.NONE, 0, Edge.NONE);
    }

    private static void namedRange() {
        Edge.of("Promise 6", "BAD if what is out of range");
        SendRules x = Edge.typed("eb");
        for (int what : new int[] {-1, 3, 4, Edge.LOW, Edge.HIGH}) {
            Edge.due("named(" + what + ")", x.named(what), Edge.BAD);
        }
        Edge.due("named(0)", x.named(0), 2);
        Edge.of("Promise 6", "NO if the text is not a name");
        for (String text : new String[] {"", "q", "`", "A", "aq", "a ", " a", "a;", "1", "abcdefgh", "aaaaaaaaaaaaaa", "na:+a;", "aeb:1;"}) {
            x = Edge.typed(text);
            for (int what = 0; what < 3; what++) {
                Edge.due("named(" + what + ") of '" + text + "'", x.named(what), Edge.NO);
            }
        }
        x = Edge.typed("abcdefg");
        Edge.due("seven letters are a name", x.named(0), Edge.NONE);
        Edge.of("Promise 6", "Searches for the whole text, as a name, among the known names.");
        x = Edge.typed("ebb");
        Edge.due("not for its end", x.named(0), 1);
        Edge.type(x, "aeb");
        Edge.due("not for its end", x.named(0), Edge.NONE);
        Edge.type(x, "ebc");
        Edge.due("not for its beginning", x.named(0), Edge.NONE);
        Edge.type(x, "na:+a;");
        Edge.type(x, "a");
        Edge.due("a name of a text that wasn't laid is not known", x.named(0), Edge.NONE);
        Edge.type(x, "na:+a;");
        x.lay();
        Edge.type(x, "a");
        Edge.due("a name of the text that was laid", x.named(0), 0);
        Edge.type(x, "eb");
        Edge.due("names of former records are not known", x.named(0), Edge.NONE);
    }

    public static void main(String[] args) {
        newObject();
        writeAppends();
        writeRange();
        writeLength();
        wipe();
        fault();
        layReplaces();
        layRefused();
        layForgets();
        layLeavesText();
        layAnswers();
        namedFinds();
        namedRange();
        Edge.end("TextEdges");
    }
}
