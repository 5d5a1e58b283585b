import java.util.function.ToIntFunction;

/** The boundary cases that the part CHECKS names, a test for each sentence. */
public final class ChecksEdges {
    private static final String PART = "CHECKS";

    private static void letters() {
        Edge.of(PART, "A check is made for a name, an address and a letter (0 to 15 for a to p).");
        SendRules x = Edge.laid("na:+e%l,-a;aa:1;ap:1;");
        Edge.check(x, "a", 0, 0, Edge.is(2, 1, 0), "a", 0);
        Edge.check(x, "a", 0, 15, Edge.is(2, 1, 0), "a", 0);
        Edge.check(x, "a", 0, 1, Edge.is(3, 1, 1), "a", 1);
        Edge.check(x, "a", 255, 14, Edge.is(3, 1, 1), "a", 1);
        Edge.check(x, "p", 255, 15, Edge.is(0, 0, 0));
    }

    private static void countsBegin() {
        Edge.of(PART, "Lookups and empty lookups are counted; both counts are 0 at its beginning.");
        SendRules x = Edge.laid("na:+ho,+ho,+hc,-a;ac:1;nd:+id;ne:+ho,+ho,+ho;");
        for (int address = 2; address < 6; address++) {
            Edge.check(x, "a", address, 0, Edge.is(3, 3, 2), "a", 3);
        }
        Edge.check(x, "d", 0, 0, Edge.is(5, 11, 0));
        Edge.check(x, "a", 1, 0, Edge.is(2, 3, 2), "a", 2);
        Edge.check(x, "e", 0, 0, Edge.is(5, 3, 3));
        Edge.check(x, "a", 1, 0, Edge.is(2, 3, 2), "a", 2);
        Edge.check(x, "c", 0, 0, Edge.is(0, 0, 0));
        Edge.due("all addresses but one fail", x.many(0, 0, 3), 255);
        Edge.due("the sum of the lookups", x.lookups(0, 0, 1, 0), 3 * 256);
    }

    private static void results() {
        Edge.of(PART, "The results are 0 none, 1 neutral, 2 pass, 3 fail, 4 soft fail, 5 error.");
        SendRules x = Edge.laid("na:?p1/8,+p2/8,-p3/8,~p4/8,rp;ab:1;");
        Edge.due("none", x.check(1, 1, 0), 0);
        for (int k = 1; k <= 5; k++) {
            Edge.due("result " + k, x.check(0, k, 0), k);
        }
    }

    private static void noPolicy() {
        Edge.of(PART, "The result of a name in a check is 0 if the name has no policy.");
        SendRules x = Edge.laid("na:+a;ab:1;xc:b;");
        Edge.check(x, "b", 1, 0, Edge.is(0, 0, 0));
        Edge.check(x, "c", 1, 0, Edge.is(0, 0, 0));
        Edge.check(x, "a", 1, 0, Edge.is(2, 0, 0), "a", 0);
        x.host(1, 1, 0);
        Edge.check(x, "b", 1, 0, Edge.is(0, 0, 0));
    }

    private static void rulesInOrder() {
        Edge.of(PART, "Otherwise its rules are tried in their order.");
        SendRules x = Edge.laid("na:+p1/8,-hb;ab:1,2;nc:-hb,+p1/8;nd:+p1/8,+p2/8,+p3/8,+p4/8,+p5/8,+p6/8,+p7/8,-p8/8;");
        Edge.check(x, "a", 1, 0, Edge.is(2, 0, 0), "a", 0);
        Edge.check(x, "a", 2, 0, Edge.is(3, 1, 0), "a", 1);
        Edge.check(x, "c", 1, 0, Edge.is(3, 1, 0), "c", 0);
        Edge.check(x, "d", 1, 0, Edge.is(2, 0, 0), "d", 0);
        Edge.check(x, "d", 7, 0, Edge.is(2, 0, 0), "d", 6);
        Edge.check(x, "d", 8, 0, Edge.is(3, 0, 0), "d", 7);
        Edge.check(x, "d", 9, 0, Edge.is(1, 0, 0));
    }

    private static void firstMatch() {
        Edge.of(PART, "The first rule that matches determines the result by its sign: + gives 2, - gives 3, ~ gives 4, ? gives 1.");
        SendRules x = Edge.laid("na:+a,-a;nb:-a,+a;nc:~a,+a;nd:?a,+a;");
        int[] due = {2, 3, 4, 1};
        for (int k = 0; k < 4; k++) {
            Edge.due("the result of name " + k, x.check(k, 0, 0), due[k]);
            Edge.due("its deciding rule", x.kept(0, 7), 0);
        }
        x = Edge.laid("na:?p1/8,+ib,-a;nb:?p1/8,+a;");
        Edge.check(x, "a", 1, 0, Edge.is(1, 0, 0), "a", 0);
        Edge.check(x, "b", 1, 0, Edge.is(1, 0, 0), "b", 0);
    }

    private static void redirects() {
        Edge.of(PART, "If no rule matches and there is a redirect, this is a lookup, and the result is that of the name to which it leads");
        SendRules x = Edge.laid("na:+p1/8,rb;nb:-p2/8,~p3/8,?p4/8;nc:-ia,+a;");
        Edge.check(x, "a", 1, 0, Edge.is(2, 0, 0), "a", 0);
        Edge.check(x, "a", 2, 0, Edge.is(3, 1, 0), "b", 0);
        Edge.check(x, "a", 3, 0, Edge.is(4, 1, 0), "b", 1);
        Edge.check(x, "a", 4, 0, Edge.is(1, 1, 0), "b", 2);
        Edge.check(x, "a", 5, 0, Edge.is(1, 1, 0));
        Edge.check(x, "c", 1, 0, Edge.is(3, 1, 0), "c", 0);
        Edge.check(x, "c", 2, 0, Edge.is(2, 2, 0), "c", 1);
        StringBuilder chain = new StringBuilder();
        for (char c = 'a'; c < 'l'; c++) {
            chain.append('n').append(c).append(":+p1/8,r").append((char) (c + 1)).append(';');
        }
        x = Edge.laid(chain + "nl:-a;");
        Edge.check(x, "k", 2, 0, Edge.is(3, 1, 0), "l", 0);
        Edge.check(x, "b", 2, 0, Edge.is(3, 10, 0), "l", 0);
        Edge.check(x, "a", 2, 0, Edge.is(5, 11, 0));
        Edge.check(x, "a", 1, 0, Edge.is(2, 0, 0), "a", 0);
    }

    private static void redirectToNone() {
        Edge.of(PART, "but if that is 0, the check ends with 5");
        SendRules x = Edge.laid("na:+p1/8,rp;nb:+p1/8,rc;ac:1;xc:a;nd:-ia,+a;ne:+p1/8,rb;");
        Edge.check(x, "a", 1, 0, Edge.is(2, 0, 0), "a", 0);
        Edge.check(x, "a", 2, 0, Edge.is(5, 1, 0));
        Edge.check(x, "b", 2, 0, Edge.is(5, 1, 0));
        Edge.check(x, "e", 2, 0, Edge.is(5, 2, 0));
        Edge.check(x, "d", 2, 0, Edge.is(5, 2, 0));
        Edge.check(x, "d", 1, 0, Edge.is(3, 1, 0), "d", 0);
    }

    private static void noRedirect() {
        Edge.of(PART, "If no rule matches and there is no redirect, the result is 1.");
        SendRules x = Edge.laid("na:-p1/8,-ho;nb:+p1/8,rc;nc:-p1/8;nd:+ic,-a;");
        Edge.check(x, "a", 2, 0, Edge.is(1, 1, 1));
        Edge.check(x, "b", 2, 0, Edge.is(1, 1, 0));
        Edge.check(x, "d", 2, 0, Edge.is(3, 1, 0), "d", 1);
    }

    private static void all() {
        Edge.of(PART, "all always");
        SendRules x = Edge.laid("na:-a;nb:+p1/8,-a;");
        Edge.due("for each address", x.many(0, 0, 3), 256);
        Edge.check(x, "a", 0, 0, Edge.is(3, 0, 0), "a", 0);
        Edge.check(x, "a", 255, 15, Edge.is(3, 0, 0), "a", 0);
        Edge.due("for the others", x.many(1, 0, 3), 255);
    }

    private static void prefixes() {
        Edge.of(PART, "prefix the first L bits of the address and of A are the same");
        for (int a : new int[] {181, 0, 255, 74}) {
            for (int l = 0; l <= 8; l++) {
                SendRules x = Edge.laid("na:+p" + a + "/" + l + ";");
                String of = " with the prefix " + a + "/" + l;
                Edge.due("the address itself" + of, x.check(0, a, 0), 2);
                Edge.due("how many" + of, x.many(0, 0, 2), 1 << (8 - l));
                for (int bit = 0; bit < 8; bit++) {
                    Edge.due("another bit " + bit + of, x.check(0, a ^ (128 >> bit), 0), bit < l ? 1 : 2);
                }
            }
        }
    }

    private static void includes() {
        Edge.of(PART, "include this is a lookup; the result of its name in this check is 2.");
        SendRules x = Edge.laid("na:-ib,+a;nb:+p2/8,-p3/8,~p4/8,?p5/8,rc;nc:+p6/8;nd:~ia,?a;ne:?ie,+a;");
        Edge.check(x, "a", 2, 0, Edge.is(3, 1, 0), "a", 0);
        for (int address = 3; address <= 5; address++) {
            Edge.check(x, "a", address, 0, Edge.is(2, 1, 0), "a", 1);
        }
        Edge.check(x, "a", 6, 0, Edge.is(3, 2, 0), "a", 0);
        Edge.check(x, "a", 7, 0, Edge.is(2, 2, 0), "a", 1);
        Edge.check(x, "d", 2, 0, Edge.is(1, 2, 0), "d", 1);
        Edge.check(x, "d", 3, 0, Edge.is(4, 2, 0), "d", 0);
        Edge.check(x, "e", 0, 0, Edge.is(5, 11, 0));
    }

    private static void includeOfNone() {
        Edge.of(PART, "If the result is 0, the check ends with 5");
        SendRules x = Edge.laid("na:+ip,+a;nb:-ic,+a;ac:1;nd:~ia,+a;ne:+p1/8,ra;");
        Edge.check(x, "a", 1, 0, Edge.is(5, 1, 0));
        Edge.check(x, "b", 1, 0, Edge.is(5, 1, 0));
        Edge.check(x, "d", 1, 0, Edge.is(5, 2, 0));
        Edge.check(x, "e", 1, 0, Edge.is(2, 0, 0), "e", 0);
        Edge.check(x, "e", 2, 0, Edge.is(5, 2, 0));
    }

    private static void hosts() {
        Edge.of(PART, "host this is a lookup; one of the hosts of its name is the address.");
        SendRules x = Edge.laid("na:+hb,-a;ab:1,255,0,4;nc:+hc,-a;ac:7;");
        for (int address : new int[] {1, 255, 0, 4}) {
            Edge.check(x, "a", address, 0, Edge.is(2, 1, 0), "a", 0);
        }
        for (int address : new int[] {2, 3, 254, 7}) {
            Edge.check(x, "a", address, 0, Edge.is(3, 1, 0), "a", 1);
        }
        Edge.check(x, "c", 7, 0, Edge.is(2, 1, 0), "c", 0);
        Edge.due("four addresses", x.many(0, 0, 2), 4);
    }

    private static void emptyHosts() {
        Edge.of(PART, "It is an empty lookup if the name has no hosts");
        SendRules x = Edge.laid("na:+ho,-a;nb:+hc,-a;xc:d;ad:1;ne:+hd,-a;nf:+hf,-a;");
        Edge.check(x, "a", 1, 0, Edge.is(3, 1, 1), "a", 1);
        Edge.check(x, "b", 1, 0, Edge.is(3, 1, 1), "b", 1);
        Edge.check(x, "f", 1, 0, Edge.is(3, 1, 1), "f", 1);
        Edge.check(x, "e", 1, 0, Edge.is(2, 1, 0), "e", 0);
        Edge.check(x, "e", 2, 0, Edge.is(3, 1, 0), "e", 1);
        Edge.due("remove the last host", x.host(Edge.number(x, "d"), 1, 0), 0);
        Edge.check(x, "e", 1, 0, Edge.is(3, 1, 1), "e", 1);
        Edge.due("add a first host", x.host(Edge.number(x, "c"), 1, 1), 1);
        Edge.check(x, "b", 1, 0, Edge.is(2, 1, 0), "b", 0);
        Edge.check(x, "b", 2, 0, Edge.is(3, 1, 0), "b", 1);
    }

    private static void mails() {
        Edge.of(PART, "mail this is a lookup; one of the hosts of one of the exchangers of its name is the address.");
        SendRules x = Edge.laid("na:+mb,-a;xb:c,d,e;ac:1,2,3,4;ae:5,6,7,8;ab:9;np:+mp,-a;xp:p;ap:0;");
        for (int address : new int[] {1, 4, 5, 8}) {
            Edge.check(x, "a", address, 0, Edge.is(2, 1, 0), "a", 0);
        }
        Edge.check(x, "a", 9, 0, Edge.is(3, 1, 0), "a", 1);
        Edge.due("eight addresses", x.many(0, 0, 2), 8);
        Edge.check(x, "p", 0, 0, Edge.is(2, 1, 0), "p", 0);
    }

    private static void emptyMails() {
        Edge.of(PART, "It is an empty lookup if the name has no exchangers");
        SendRules x = Edge.laid("na:+mo,-a;nb:+mc,-a;ac:1;nd:+me,-a;xe:o,a,b;nf:+mf,-a;");
        Edge.check(x, "a", 1, 0, Edge.is(3, 1, 1), "a", 1);
        Edge.check(x, "b", 1, 0, Edge.is(3, 1, 1), "b", 1);
        Edge.check(x, "f", 1, 0, Edge.is(3, 1, 1), "f", 1);
        Edge.check(x, "d", 1, 0, Edge.is(3, 1, 0), "d", 1);
    }

    private static void exists() {
        Edge.of(PART, "exists this is a lookup; the name that results from its macro has hosts.");
        SendRules x = Edge.laid("na:+eb,-a;ab:1;nc:+ec,-a;ac:1;");
        for (int address : new int[] {0, 1, 2, 255}) {
            Edge.check(x, "a", address, 0, Edge.is(2, 1, 0), "a", 0);
        }
        Edge.check(x, "c", 9, 0, Edge.is(2, 1, 0), "c", 0);
        Edge.of(PART, "It is an empty lookup if this name has no hosts");
        x = Edge.laid("na:+eo,-a;nb:+ec,-a;xc:d;ad:1;ne:+ed,-a;nf:+ef,-a;");
        Edge.check(x, "a", 1, 0, Edge.is(3, 1, 1), "a", 1);
        Edge.check(x, "b", 1, 0, Edge.is(3, 1, 1), "b", 1);
        Edge.check(x, "f", 1, 0, Edge.is(3, 1, 1), "f", 1);
        Edge.check(x, "e", 2, 0, Edge.is(2, 1, 0), "e", 0);
        x.host(Edge.number(x, "d"), 1, 0);
        Edge.check(x, "e", 2, 0, Edge.is(3, 1, 1), "e", 1);
    }

    /** A check of a has made ten lookups when it comes to the last piece of its policy; b makes five of them. */
    private static SendRules afterTen(String last, String records) {
        return Edge.laid("na:+ib,+hp,+hp,+hp,+hp," + last + ";nb:-hp,-hp,-hp,-hp,-hp;ap:9;" + records);
    }

    private static void eleventhLookup() {
        Edge.of(PART, "As soon as a lookup is the 11th one of the check");
        Edge.check(afterTen("-a", ""), "a", 1, 0, Edge.is(3, 10, 0), "a", 5);
        Edge.check(afterTen("-p1/8", ""), "a", 2, 0, Edge.is(1, 10, 0));
        Edge.check(afterTen("+hc,-a", "ac:1;"), "a", 1, 0, Edge.is(5, 11, 0));
        Edge.check(afterTen("+mc,-a", "ac:1;xc:c;"), "a", 1, 0, Edge.is(5, 11, 0));
        Edge.check(afterTen("+ec,-a", "ac:1;"), "a", 1, 0, Edge.is(5, 11, 0));
        Edge.check(afterTen("+ic,-a", "nc:+a;"), "a", 1, 0, Edge.is(5, 11, 0));
        Edge.check(afterTen("+p2/8,rc", "nc:+a;"), "a", 1, 0, Edge.is(5, 11, 0));
        Edge.check(afterTen("+p1/8,rc", "nc:+a;"), "a", 1, 0, Edge.is(2, 10, 0), "a", 5);
        SendRules x = Edge.laid("na:+ib,+hp,+hp,+hp,+hc,-a;nb:-hp,-hp,-hp,-hp,-hp;ap:9;ac:1;nd:-ia,+a;ne:-ho,ra;");
        Edge.check(x, "a", 1, 0, Edge.is(2, 10, 0), "a", 4);
        Edge.check(x, "a", 9, 0, Edge.is(2, 3, 0), "a", 1);
        Edge.check(x, "d", 1, 0, Edge.is(5, 11, 0));
        Edge.check(x, "e", 1, 0, Edge.is(5, 11, 1));
        x = Edge.laid("na:+ia,+a;nb:+p1/8,rb;nc:-id,+a;nd:-ic,+a;ne:+p1/8,-ie,re;");
        Edge.check(x, "a", 1, 0, Edge.is(5, 11, 0));
        Edge.check(x, "b", 2, 0, Edge.is(5, 11, 0));
        Edge.check(x, "c", 2, 0, Edge.is(5, 11, 0));
        Edge.check(x, "e", 2, 0, Edge.is(5, 11, 0));
        Edge.check(x, "e", 1, 0, Edge.is(2, 0, 0), "e", 0);
    }

    private static void thirdEmpty() {
        Edge.of(PART, "or an empty lookup is the third one (it is counted as a lookup first), the check ends with 5");
        SendRules x = Edge.laid("na:+ho,+mo,-a;nb:+ho,+mo,+eo,-a;nc:+mo,+eo,+ho,-a;nd:+eo,+ho,+mo,-a;ne:+ho,+ho;nf:-ie,+ho,+a;"
            + "ng:+eo,re;nh:+ho,+ho,rb;");
        Edge.check(x, "a", 1, 0, Edge.is(3, 2, 2), "a", 2);
        Edge.check(x, "b", 1, 0, Edge.is(5, 3, 3));
        Edge.check(x, "c", 1, 0, Edge.is(5, 3, 3));
        Edge.check(x, "d", 1, 0, Edge.is(5, 3, 3));
        Edge.check(x, "e", 1, 0, Edge.is(1, 2, 2));
        Edge.check(x, "f", 1, 0, Edge.is(5, 4, 3));
        Edge.check(x, "g", 1, 0, Edge.is(5, 4, 3));
        Edge.check(x, "h", 1, 0, Edge.is(5, 4, 3));
        // The second empty lookup is the 9th lookup or the 10th.
        x = Edge.laid("na:+ib,+hp,+ho,+ho,+hp,-a;nb:-hp,-hp,-hp,-hp,-hp;ap:9;nc:+ib,+hp,+hp,+ho,+ho,-a;");
        Edge.check(x, "a", 1, 0, Edge.is(3, 10, 2), "a", 5);
        Edge.check(x, "c", 1, 0, Edge.is(3, 10, 2), "c", 5);
        // The third empty lookup is the 10th lookup.
        x = Edge.laid("na:+ib,+hp,+ho,+ho,+ho,-a;nb:-hp,-hp,-hp,-hp,-hp;ap:9;");
        Edge.check(x, "a", 1, 0, Edge.is(5, 10, 3));
        // The 11th lookup would be the third empty one, or the first: it is counted as a lookup first, and that ends the check.
        x = Edge.laid("na:+ib,+hp,+hp,+ho,+ho,+ho,-a;nb:-hp,-hp,-hp,-hp,-hp;ap:9;");
        Edge.check(x, "a", 1, 0, Edge.is(5, 11, 2));
        Edge.check(afterTen("+ho,-a", ""), "a", 1, 0, Edge.is(5, 11, 0));
        Edge.check(afterTen("+mo,-a", ""), "a", 1, 0, Edge.is(5, 11, 0));
        Edge.check(afterTen("+eo,-a", ""), "a", 1, 0, Edge.is(5, 11, 0));
    }

    private static void lastIsCounted() {
        Edge.of(PART, "this lookup is included in the counts");
        SendRules x = Edge.laid("na:+p0/1,+ia;nb:+p0/1,+ho,+ho,+ho,+ho;");
        Edge.check(x, "a", 128, 0, Edge.is(5, 11, 0));
        Edge.check(x, "b", 128, 0, Edge.is(5, 3, 3));
        Edge.due("the sum for a", x.lookups(0, 0, 1, 0), 11 * 128);
        Edge.due("the sum for b", x.lookups(1, 0, 1, 0), 3 * 128);
    }

    /** A check of the name, whose policy is the macro and then -a; it passes if the macro makes a name with hosts. */
    private static void macro(String macro, String name, int address, int letter, String made) {
        String text = "n" + name + ":+e" + macro + ",-a;";
        SendRules x = Edge.laid(text + "a" + made + ":1;");
        Edge.check(x, name, address, letter, Edge.is(2, 1, 0), name, 0);
        String other = (made.charAt(0) == 'p' ? "o" : "p") + made.substring(1);
        x = Edge.laid(text + "a" + other + ":1;");
        Edge.check(x, name, address, letter, Edge.is(3, 1, 1), name, 1);
    }

    private static void macroTexts() {
        Edge.of(PART, "The parts of a macro result in texts, which are put together: a letter results in itself");
        macro("a", "b", 0, 0, "a");
        macro("p", "b", 0, 0, "p");
        macro("donl", "b", 0, 0, "donl");
        macro("abcdefg", "b", 0, 0, "abcdefg");
        macro("p%da%lb", "cd", 0, 4, "pcdaeb");
        macro("%l%d%l", "cd", 0, 15, "pcdp");
    }

    private static void macroNames() {
        Edge.of(PART, "d in the name whose rules are being tried, o in the name of the check");
        macro("%d", "abc", 0, 0, "abc");
        macro("%o", "abc", 0, 0, "abc");
        macro("%d", "abcdefg", 0, 0, "abcdefg");
        macro("%o", "hijklmn", 0, 0, "hijklmn");
        macro("%d", "a", 0, 0, "a");
        SendRules x = Edge.laid("nc:+ie,-a;ne:+e%dp;aep:1;nd:+if,-a;nf:+e%op;adp:1;ng:-p1/8,re;nh:+ii,+e%dp,-a;ni:-a;ahp:1;"
            + "nj:-p1/8,rf;ajp:1;");
        Edge.check(x, "c", 0, 0, Edge.is(2, 2, 0), "c", 0);
        Edge.check(x, "e", 0, 0, Edge.is(2, 1, 0), "e", 0);
        Edge.check(x, "d", 0, 0, Edge.is(2, 2, 0), "d", 0);
        Edge.check(x, "f", 0, 0, Edge.is(1, 1, 1));
        Edge.check(x, "g", 0, 0, Edge.is(2, 2, 0), "e", 0);
        Edge.check(x, "h", 0, 0, Edge.is(2, 2, 0), "h", 1);
        Edge.check(x, "j", 0, 0, Edge.is(2, 2, 0), "f", 0);
        x = Edge.laid("nab:+icde,-a;ncde:+e%d;acde:1;nfgh:+ii,-a;ni:+e%o;afgh:1;nj:-p1/8,rcde;nklm:-p1/8,ri;aklm:1;");
        Edge.check(x, "ab", 0, 0, Edge.is(2, 2, 0), "ab", 0);
        Edge.check(x, "fgh", 0, 0, Edge.is(2, 2, 0), "fgh", 0);
        Edge.check(x, "j", 0, 0, Edge.is(2, 2, 0), "cde", 0);
        Edge.check(x, "klm", 0, 0, Edge.is(2, 2, 0), "i", 0);
    }

    private static void macroAddress() {
        Edge.of(PART, "s in the address as four letters from a to d for 0 to 3, one for each two bits, the most significant ones first");
        SendRules x = Edge.laid("no:+e%s,-a;aaaaa:1;adddd:1;aabcd:1;abaaa:1;acaab:1;");
        int[] made = {0, 255, 0b00011011, 0b01000000, 0b10000001};
        for (int address : made) {
            Edge.check(x, "o", address, 0, Edge.is(2, 1, 0), "o", 0);
        }
        Edge.check(x, "o", 0b11100100, 0, Edge.is(3, 1, 1), "o", 1);
        Edge.check(x, "o", 1, 0, Edge.is(3, 1, 1), "o", 1);
        Edge.due("addresses that make a name", x.many(Edge.number(x, "o"), 0, 2), made.length);
        Edge.of(PART, "and l in the letter of the check");
        for (int letter = 0; letter < 16; letter++) {
            macro("%l", "pp", 0, letter, String.valueOf((char) ('a' + letter)));
        }
    }

    private static void macroMinus() {
        Edge.of(PART, "With a minus sign, the text is reversed.");
        macro("%-d", "abc", 0, 0, "cba");
        macro("%-o", "abcdefg", 0, 0, "gfedcba");
        macro("%-s", "o", 0b00011011, 0, "dcba");
        macro("%-s", "o", 0b01000000, 0, "aaab");
        macro("%-l", "o", 0, 15, "p");
        macro("%-d", "a", 0, 0, "a");
        macro("%-d%d", "abc", 0, 0, "cbaabc");
        macro("ab%-d", "ab", 0, 0, "abba");
    }

    private static void macroDigit() {
        Edge.of(PART, "Then, with a digit n, only its last n characters are used (all, if it has not more).");
        for (int n = 1; n <= 7; n++) {
            macro("%" + n + "d", "abcdefg", 0, 0, "abcdefg".substring(7 - n));
            macro("%-" + n + "o", "abcdefg", 0, 0, "gfedcba".substring(7 - n));
            macro("%" + n + "s", "o", 0b00011011, 0, "abcd".substring(Math.max(0, 4 - n)));
            macro("%-" + n + "s", "o", 0b00011011, 0, "dcba".substring(Math.max(0, 4 - n)));
            macro("%" + n + "l", "o", 0, 3, "d");
            macro("%" + n + "d", "ab", 0, 0, n == 1 ? "b" : "ab");
            macro("%-" + n + "d", "ab", 0, 0, n == 1 ? "a" : "ba");
        }
        macro("%2d%-2d", "abc", 0, 0, "bcba");
    }

    private static void macroWhole() {
        Edge.of(PART, "The name is what the last 7 characters of the whole are, or the whole if it has not more.");
        macro("l", "a", 0, 0, "l");
        macro("abcdef", "a", 0, 0, "abcdef");
        macro("abcdefg", "a", 0, 0, "abcdefg");
        macro("abcdefgh", "a", 0, 0, "bcdefgh");
        macro("%s%3s", "a", 0b00011011, 0, "abcdbcd");
        macro("%s%s", "a", 0b00011011, 0, "bcdabcd");
        macro("%d%l", "abcdefg", 0, 15, "bcdefgp");
        macro("%l%d", "abcdefg", 0, 15, "abcdefg");
        macro("%d%-d", "abcdefg", 0, 0, "gfedcba");
        macro("%d%d%d%d%d%d%d%d", "abcdefg", 0, 0, "abcdefg");
        macro("%d%d%d%d%d%d%d%l", "abcdefg", 0, 0, "bcdefga");
        macro("%l%l%l%l%l%l%l%l", "a", 0, 7, "hhhhhhh");
        macro("%4d%-4d", "abcdefg", 0, 0, "efgdcba");
    }

    private static void deciding() {
        Edge.of(PART, "The deciding rule of a check is the rule that matched and by whose sign the result of the check arose; this can be "
            + "a rule of a name to which redirects lead, but not one of an included name.");
        SendRules x = Edge.laid("na:~ib,rc;nb:+p1/8,rd;nc:-p3/8,re;nd:+p2/8;ne:?p4/8,-p5/8;nf:-ia,+a;");
        Edge.check(x, "a", 1, 0, Edge.is(4, 1, 0), "a", 0);
        Edge.check(x, "a", 2, 0, Edge.is(4, 2, 0), "a", 0);
        Edge.check(x, "a", 3, 0, Edge.is(3, 3, 0), "c", 0);
        Edge.check(x, "a", 4, 0, Edge.is(1, 4, 0), "e", 0);
        Edge.check(x, "a", 5, 0, Edge.is(3, 4, 0), "e", 1);
        Edge.check(x, "f", 3, 0, Edge.is(2, 4, 0), "f", 1);
        Edge.check(x, "b", 2, 0, Edge.is(2, 1, 0), "d", 0);
        x = Edge.laid("na:-ib;nb:?a;nc:-id,rb;nd:-p1/8,re;ne:~a;nf:-ib,rg;ng:+p1/8;");
        Edge.check(x, "a", 1, 0, Edge.is(1, 1, 0));
        Edge.check(x, "c", 1, 0, Edge.is(1, 2, 0), "b", 0);
        Edge.check(x, "c", 2, 0, Edge.is(1, 3, 0), "b", 0);
        Edge.check(x, "f", 2, 0, Edge.is(1, 2, 0));
    }

    private static void noDeciding() {
        Edge.of(PART, "There is none if the result is 0 or 5, or 1 without a rule that matched.");
        SendRules x = Edge.laid("na:-p1/8,rb;nb:+ie,-p2/8,+ip;ac:1;nd:?p1/8;ne:?a;nf:-ie,-ho,-ho,-ho;");
        Edge.check(x, "c", 1, 0, Edge.is(0, 0, 0));
        Edge.check(x, "a", 3, 0, Edge.is(5, 3, 0));
        Edge.check(x, "a", 2, 0, Edge.is(3, 2, 0), "b", 1);
        Edge.check(x, "d", 1, 0, Edge.is(1, 0, 0), "d", 0);
        Edge.check(x, "d", 2, 0, Edge.is(1, 0, 0));
        Edge.check(x, "f", 1, 0, Edge.is(5, 4, 3));
        Edge.check(x, "e", 1, 0, Edge.is(1, 0, 0), "e", 0);
        Edge.check(x, "d", 3, 0, Edge.is(1, 0, 0));
    }

    private static String checksOf(SendRules x) {
        StringBuilder b = new StringBuilder();
        for (int k = 0; k < x.count(4); k++) {
            b.append(x.kept(k, 0)).append(' ').append(x.kept(k, 1)).append(' ').append(x.kept(k, 2)).append("; ");
        }
        return b.toString();
    }

    private static void keptChecks() {
        Edge.of(PART, "The latest 4 checks made by check() that differ in name, address or letter are kept");
        SendRules x = new SendRules();
        Edge.due("none", checksOf(x), "");
        x.check(0, 0, 0);
        Edge.due("one", checksOf(x), "0 0 0; ");
        x.check(1, 0, 0);
        x.check(0, 1, 0);
        x.check(0, 0, 1);
        Edge.due("four that differ in one thing", checksOf(x), "0 0 1; 0 1 0; 1 0 0; 0 0 0; ");
        x.check(1, 1, 1);
        Edge.due("a fifth one", checksOf(x), "1 1 1; 0 0 1; 0 1 0; 1 0 0; ");
        x.check(4, 255, 15);
        Edge.due("a sixth one", checksOf(x), "4 255 15; 1 1 1; 0 0 1; 0 1 0; ");
        x.check(0, 0, 0);
        Edge.due("one that isn't kept any more", checksOf(x), "0 0 0; 4 255 15; 1 1 1; 0 0 1; ");
        x.many(2, 3, 2);
        x.dead(2, 3);
        x.lookups(2, 3, 1, 0);
        x.lookups(2, 3, 1, 1);
        Edge.due("others than check() keep none", checksOf(x), "0 0 0; 4 255 15; 1 1 1; 0 0 1; ");
        x.check(0, 256, 0);
        Edge.due("a refused check isn't kept", checksOf(x), "0 0 0; 4 255 15; 1 1 1; 0 0 1; ");
        Edge.of(PART, "a check that is made again becomes the latest one");
        x = new SendRules();
        x.check(0, 1, 0);
        x.check(0, 1, 0);
        Edge.due("the only one again", checksOf(x), "0 1 0; ");
        x.check(0, 2, 0);
        x.check(0, 1, 0);
        Edge.due("the oldest of two again", checksOf(x), "0 1 0; 0 2 0; ");
        x.check(0, 3, 0);
        x.check(0, 4, 0);
        x.check(0, 4, 0);
        Edge.due("the latest of four again", checksOf(x), "0 4 0; 0 3 0; 0 1 0; 0 2 0; ");
        x.check(0, 2, 0);
        Edge.due("the oldest of four again", checksOf(x), "0 2 0; 0 4 0; 0 3 0; 0 1 0; ");
        x.check(0, 3, 0);
        Edge.due("one in the middle again", checksOf(x), "0 3 0; 0 2 0; 0 4 0; 0 1 0; ");
        x.check(0, 5, 0);
        Edge.due("then another one", checksOf(x), "0 5 0; 0 3 0; 0 2 0; 0 4 0; ");
    }

    /** What the call leaves of three kept checks, of an object that has a change to undo. */
    private static int left(ToIntFunction<SendRules> call) {
        SendRules x = new SendRules();
        x.sign(0, 0, 1);
        Edge.type(x, "na:+a;");
        x.check(0, 1, 1);
        x.check(1, 1, 1);
        x.check(2, 1, 1);
        call.applyAsInt(x);
        int left = x.count(4);
        Edge.due("the oldest one", x.kept(Math.max(0, left - 1), 0), left == 0 ? Edge.NONE : 0);
        return left;
    }

    private static void keptRemoved() {
        Edge.of(PART, "By each change, by undo() and by lay(), all kept checks are removed.");
        Edge.due("sign", left(x -> x.sign(2, 1, 0)), 0);
        Edge.due("swap", left(x -> x.swap(0, 2)), 0);
        Edge.due("adding a host", left(x -> x.host(2, 1, 1)), 0);
        Edge.due("removing a host", left(x -> x.host(4, 7, 0)), 0);
        Edge.due("undo", left(x -> x.undo()), 0);
        Edge.due("lay", left(x -> x.lay()), 0);
        Edge.due("a refused sign", left(x -> x.sign(2, 1, 1)), 3);
        Edge.due("a refused swap", left(x -> x.swap(0, 3)), 3);
        Edge.due("a refused host", left(x -> x.host(4, 7, 1)), 3);
        Edge.due("a refused lay", left(x -> x.write('x') + x.lay()), 3);
        Edge.due("write and wipe", left(x -> x.write('x') + x.wipe()), 3);
        Edge.due("fault", left(x -> x.fault()), 3);
        Edge.due("named", left(x -> x.named(0)), 3);
        Edge.due("many", left(x -> x.many(0, 0, 0)), 3);
        Edge.due("a check", left(x -> x.check(3, 0, 0)), 4);
    }

    public static void main(String[] args) {
        letters();
        countsBegin();
        results();
        noPolicy();
        rulesInOrder();
        firstMatch();
        redirects();
        redirectToNone();
        noRedirect();
        all();
        prefixes();
        includes();
        includeOfNone();
        hosts();
        emptyHosts();
        mails();
        emptyMails();
        exists();
        eleventhLookup();
        thirdEmpty();
        lastIsCounted();
        macroTexts();
        macroNames();
        macroAddress();
        macroMinus();
        macroDigit();
        macroWhole();
        deciding();
        noDeciding();
        keptChecks();
        keptRemoved();
        Edge.end("ChecksEdges");
    }
}
