/** Each promise of the document: ordinary inputs, the edges that it names, and wrong inputs. */
public final class PromiseTest {
    private static final int BAD = -1;
    private static final int NO = -2;
    private static final int FULL = -3;
    private static final int NONE = -4;
    private static final int LOW = Integer.MIN_VALUE;
    private static final int HIGH = Integer.MAX_VALUE;

    private static int wrong = 0;
    private static int promise = 0;

    private static void due(String what, int got, int want) {
        if (got != want) {
            wrong++;
            System.out.println("promise " + promise + ": " + what + " answered " + got + ", due is " + want);
        }
    }

    private static void type(SendRules x, String text) {
        x.wipe();
        for (int k = 0; k < text.length(); k++) {
            x.write(text.charAt(k));
        }
    }

    private static SendRules with(String text) {
        SendRules x = new SendRules();
        type(x, text);
        due("fault of " + text, x.fault(), NONE);
        due("lay of " + text + " is good", Math.min(x.lay(), 0), 0);
        return x;
    }

    private static int number(SendRules x, String name) {
        type(x, name);
        int number = x.named(0);
        due("the name " + name + " is known", Math.min(number, 0), 0);
        return number;
    }

    private static void faultIs(String text, int position) {
        SendRules x = new SendRules();
        type(x, text);
        due("fault of " + text, x.fault(), position);
        if (position != NONE) {
            due("lay of " + text, x.lay(), NO);
            due("known names after " + text, x.count(0), 5);
        }
    }

    /** A check of a name with all its values: result, lookups, empty lookups, deciding name and rule. */
    private static void checkIs(SendRules x, String name, int address, int letter, int[] values) {
        int number = number(x, name);
        String what = "check of " + name + " for " + address + " and " + letter;
        due(what, x.check(number, address, letter), values[0]);
        due(what + ", name", x.kept(0, 0), number);
        due(what + ", address", x.kept(0, 1), address);
        due(what + ", letter", x.kept(0, 2), letter);
        for (int k = 0; k < values.length; k++) {
            due(what + ", value " + (3 + k), x.kept(0, 3 + k), values[k]);
        }
    }

    private static int[] is(int... values) {
        return values;
    }

    private static void newObject() {
        promise = 1;
        SendRules x = new SendRules();
        int[] counts = {5, 3, 8, 4, 0, 0, 0};
        for (int k = 0; k < counts.length; k++) {
            due("count " + k, x.count(k), counts[k]);
        }
        due("undo", x.undo(), NO);
        due("kept", x.kept(0, 0), NONE);
        due("lay of the empty text", x.lay(), NO);
        due("wipe", x.wipe(), 0);
        String[] names = {"ab", "ebb", "eb", "ac", "ad"};
        for (int k = 0; k < names.length; k++) {
            due("number of " + names[k], number(x, names[k]), k);
        }
        due("BAD", SendRules.BAD, BAD);
        due("NO", SendRules.NO, NO);
        due("FULL", SendRules.FULL, FULL);
        due("NONE", SendRules.NONE, NONE);
        SendRules y = new SendRules();
        x.sign(0, 0, 1);
        due("another object's rule", y.rule(0, 0, 0), 0);
    }

    private static void write() {
        promise = 2;
        SendRules x = new SendRules();
        for (int bad : new int[] {31, 127, 0, -1, LOW, HIGH, 97 + 65536}) {
            due("write " + bad, x.write(bad), BAD);
        }
        due("length", x.count(6), 0);
        due("write 32", x.write(32), 1);
        due("write 126", x.write(126), 2);
        for (int k = 3; k <= 240; k++) {
            due("write", x.write('a'), k);
        }
        due("write 241st", x.write('a'), FULL);
        due("write 241st, out of range", x.write(127), BAD);
        due("length", x.count(6), 240);
    }

    private static void wipe() {
        promise = 3;
        SendRules x = new SendRules();
        due("wipe", x.wipe(), 0);
        type(x, "na:+a;");
        due("wipe", x.wipe(), 6);
        due("wipe again", x.wipe(), 0);
        due("length", x.count(6), 0);
        due("write", x.write('b'), 1);
        due("no letter of the old text is left", x.named(0), NONE);
        due("names stay", x.count(0), 5);
        type(x, "na:+a;");
        type(x, "na:+a");
        due("no semicolon of the old text is left", x.fault(), 0);
        type(x, "bbbb");
        type(x, "eb");
        due("only the new text is searched for", x.named(0), 2);
    }

    private static void faultOfPolicies() {
        promise = 4;
        for (String good : new String[] {"", "na:+a;", "na:-a,~a,?a;", "nabcdefg:+a;", "nhijklmn:+a;", "nopa:+a;",
            "nn:+a;", "na:+a,rb;", "na:+a,+a,+a,+a,+a,+a,+a,+a;", "na:+a,+a,+a,+a,+a,+a,+a,+a,rb;", "na:+p0/0;",
            "na:+p255/8;", "na:+p007/008;", "na:+p000/000;", "na:+ia;", "na:+habcdefg;", "na:+mp;", "na:+ea;",
            "na:+eabcdefgh;", "na:+e%d%o%s%l%-d%1d%-7d%7l;", "na:+a;na:-a;", "na:+a,rabcdefg;"}) {
            faultIs(good, NONE);
        }
        for (String bad : new String[] {";", "n", "na", "na:", "na:;", "na:+", "na:+;", "na:+a", "na:+a,", "na:+a,;",
            "na:+a+a;", "na:,+a;", "na:+a,,+a;", "na:rb;", "na:,rb;", "na:+arb;", "na:+a,r;", "na:+a,rb,;", "na:+a,rb,rb;",
            "na:+a,rb,+a;", "na:+a,rabcdefgh;", "na:+a,rq;", "na:+a,+a,+a,+a,+a,+a,+a,+a,+a;", "n:+a;", "nabcdefgh:+a;",
            "nq:+a;", "nA:+a;", "na;+a;", "na:a;", "na:*a;", "na:+aa;", "na:+b;", "na:+p;", "na:+p1;", "na:+p1/;",
            "na:+p/1;", "na:+p256/1;", "na:+p1/9;", "na:+p0001/1;", "na:+p1/0001;", "na:+p-1/1;", "na:+p1/1/1;", "na:+p999/1;",
            "na:+i;", "na:+h;", "na:+m;", "na:+iq;", "na:+iabcdefgh;", "na:+e;", "na:+eq;", "na:+eabcdefghi;",
            "na:+e%d%o%s%l%-d%1d%-7d%7l%d;", "na:+e%;", "na:+e%-;", "na:+e%1;", "na:+e%0d;", "na:+e%8d;", "na:+e%12d;",
            "na:+e%1-d;", "na:+e%--d;", "na:+e%a;", "na:+e%x;", "na:+e-d;", "na:+e1d;", "na:+e%d%;", " na:+a;", "na:+a ;",
            "Na:+a;", "ra:+a;", "za:+a;", "+a;"}) {
            faultIs(bad, 0);
            faultIs("na:+a;" + bad, 6);
        }
    }

    private static void faultOfOthers() {
        promise = 4;
        for (String good : new String[] {"aa:0;", "aa:255;", "aa:000,7,7,007;", "aabcdefg:1;", "xa:b;", "xa:b,b,abcdefg;"}) {
            faultIs(good, NONE);
        }
        for (String bad : new String[] {"aa:;", "aa:256;", "aa:0001;", "aa:1,;", "aa:,1;", "aa:1,2,3,4,5;", "aa:b;", "aa:1",
            "aa:1,2,3,4,;", "a:1;", "xa:;", "xa:b,c,d,e;", "xa:b,;", "xa:q;", "xa:1;", "xa:abcdefgh;", "xa:b", "xa:b,c,d,;",
            "aa:-1;", "aa:+1;", "x:b;", "aa:1,rb;", "xa:b:c;"}) {
            faultIs(bad, 0);
            faultIs("aa:1;xb:c;" + bad, 10);
        }
        faultIs("na:+a;;", 6);
        faultIs("na:+a;nb:+a;nb:+;nb:+;", 12);
        String twelve = "aa:1;ab:1;ac:1;ad:1;ae:1;af:1;xg:a;xh:a;xi:a;nj:+a;nk:+a;nl:+a;";
        faultIs(twelve, NONE);
        faultIs(twelve + "na:+a;xa:b;al:2;xl:m,n;", NONE);
        faultIs(twelve + "nm:+a;", twelve.length());
        faultIs(twelve + "na:+a;am:1;xn:a;", twelve.length() + 6);
        faultIs(twelve + "xaa:a;", twelve.length());
    }

    private static void lay() {
        promise = 5;
        SendRules x = new SendRules();
        x.check(0, 1, 1);
        x.sign(0, 0, 1);
        x.check(0, 1, 1);
        type(x, "na:+a");
        due("lay with an error", x.lay(), NO);
        type(x, "aa:1;xa:b;");
        due("lay without a policy", x.lay(), NO);
        due("records stay", x.count(0), 5);
        due("kept checks stay", x.count(4), 1);
        due("changes stay", x.count(5), 1);
        type(x, "na:+a,rb;aa:1,2;xa:b,c,d;aa:3;na:-a,-a;xa:e;ab:9;");
        due("lay", x.lay(), 2);
        due("text stays", x.count(6), 49);
        due("kept checks", x.count(4), 0);
        due("changes", x.count(5), 0);
        due("the last policy counts", x.name(0, 1), 2);
        due("its redirect too", x.name(0, 4), NONE);
        due("the last hosts count", x.hostOf(0, 0), 3);
        due("the number of the last hosts", x.name(0, 2), 1);
        due("the last exchangers count", x.name(0, 3), 1);
        due("rules", x.count(2), 2);
        due("lay again", x.lay(), 2);
        x.host(1, 9, 0);
        due("a name without records stays known", x.count(0), 2);
        due("lay gives the host back", x.lay() + x.hostOf(1, 0), 11);
    }

    private static void layAgain() {
        promise = 5;
        SendRules x = new SendRules();
        for (int k = 0; k < 3; k++) {
            type(x, "na:+ib,-p9/8,+eaaa;nb:+a,ra;ac:1,2,3,4;xd:a,b,c;");
            due("lay the larger text", x.lay(), 4);
        }
        for (int k = 0; k < 3; k++) {
            type(x, "nb:-a;xa:b;");
            due("lay the smaller text", x.lay(), 2);
            due("names", x.count(0), 2);
            due("policies", x.count(1), 1);
            due("rules", x.count(2), 1);
            due("hosts", x.count(3), 0);
            due("the redirect is gone", x.name(1, 4), NONE);
            due("leads", x.leads(1), 0);
            due("the rule's name is gone", x.rule(1, 0, 4), NONE);
            due("a policy is gone", x.name(0, 5), 0);
            due("a rule is gone", x.rule(1, 1, 0), BAD);
            due("exchangers", x.name(0, 3), 1);
        }
        type(x, "na:+ia;ab:1;x");
        due("fault", x.fault(), 12);
        due("fault and lay with an error leave the records", x.lay() + x.count(0) * 10 + x.count(1), 19);
        due("the exchangers too", x.name(0, 3), 1);
    }

    private static void order() {
        promise = 6;
        SendRules x = with("aba:1;ab:1;aa:1;aab:1;np:+a;abaa:1;aap:1;aaaaaaaa:1;appppppp:1;");
        String[] names = {"a", "aaaaaaa", "baa", "ba", "b", "ab", "p", "ap", "ppppppp"};
        for (int k = 0; k < names.length; k++) {
            due("number of " + names[k], number(x, names[k]), k);
            due("not after " + names[k], x.named(1), k);
            due("not before " + names[k], x.named(2), k);
        }
        Object[][] others = {{"aa", 0, 1}, {"aaa", 0, 1}, {"aba", 3, 4}, {"c", 5, 6}, {"pp", 7, 8}, {"bp", 7, 8},
            {"aaaaaab", 5, 6}, {"bb", 5, 6}};
        for (Object[] o : others) {
            type(x, (String) o[0]);
            due("number of " + o[0], x.named(0), NONE);
            due("not after " + o[0], x.named(1), (Integer) o[1]);
            due("not before " + o[0], x.named(2), (Integer) o[2]);
        }
        for (String bad : new String[] {"", "q", "A", "a ", " a", "aaaaaaaa", "a1", "na:+a;"}) {
            type(x, bad);
            due("named of '" + bad + "'", x.named(0), NO);
            due("named of '" + bad + "', wrong what", x.named(3), BAD);
        }
        type(x, "a");
        for (int bad : new int[] {-1, 3, LOW, HIGH}) {
            due("named " + bad, x.named(bad), BAD);
        }
        SendRules y = with("nbb:+a;");
        type(y, "a");
        due("none is not after the first", y.named(1), NONE);
        due("not before a", y.named(2), 0);
        type(y, "cbb");
        due("none is not before the last", y.named(2), NONE);
        due("not after cbb", y.named(1), 0);
    }

    private static void checkRules() {
        promise = 7;
        SendRules x = with("na:+p128/1,-p64/2,~p255/8,?p7/0,+a;nb:-a;nc:+p0/8;nd:~a;ne:?a;af:1;");
        checkIs(x, "a", 128, 0, is(2, 0, 0, 0, 0));
        checkIs(x, "a", 127, 0, is(3, 0, 0, 0, 1));
        checkIs(x, "a", 63, 0, is(1, 0, 0, 0, 3));
        checkIs(x, "b", 0, 15, is(3, 0, 0, 1, 0));
        checkIs(x, "c", 0, 0, is(2, 0, 0, 2, 0));
        checkIs(x, "c", 1, 0, is(1, 0, 0, NONE, NONE));
        checkIs(x, "d", 255, 0, is(4, 0, 0, 3, 0));
        checkIs(x, "e", 255, 0, is(1, 0, 0, 4, 0));
        checkIs(x, "f", 1, 0, is(0, 0, 0, NONE, NONE));
        x = with("na:-hb,~mb,?hc;ab:5,5,9;xb:c,d,b;ad:200;ac:77;nb:-mf,+a;xf:e,e;");
        checkIs(x, "a", 5, 0, is(3, 1, 0, 0, 0));
        checkIs(x, "a", 200, 0, is(4, 2, 0, 0, 1));
        checkIs(x, "a", 77, 0, is(4, 2, 0, 0, 1));
        checkIs(x, "a", 8, 0, is(1, 3, 0, NONE, NONE));
        checkIs(x, "b", 8, 0, is(2, 1, 0, 1, 1));
        for (int[] bad : new int[][] {{-1, 0, 0}, {99, 0, 0}, {LOW, 0, 0}, {0, -1, 0}, {0, 256, 0}, {0, 0, -1},
            {0, 0, 16}, {0, HIGH, 0}, {0, 0, HIGH}, {x.count(0), 0, 0}}) {
            due("check", x.check(bad[0], bad[1], bad[2]), BAD);
        }
    }

    private static void checkLeading() {
        promise = 7;
        SendRules x = with("na:-ib,~ic,rd;nb:+p1/8,-p2/8,~p3/8,?p4/8,rc;nc:+p5/8;nd:-p6/8,re;ne:?a;");
        checkIs(x, "a", 1, 0, is(3, 1, 0, 0, 0));
        checkIs(x, "a", 2, 0, is(1, 4, 0, 4, 0));
        checkIs(x, "a", 3, 0, is(1, 4, 0, 4, 0));
        checkIs(x, "a", 4, 0, is(1, 4, 0, 4, 0));
        checkIs(x, "a", 5, 0, is(3, 2, 0, 0, 0));
        checkIs(x, "a", 6, 0, is(3, 4, 0, 3, 0));
        checkIs(x, "a", 9, 0, is(1, 5, 0, 4, 0));
        x = with("na:+ib,~ic;nb:-a;nc:-p1/8,?a;");
        checkIs(x, "a", 1, 0, is(1, 2, 0, NONE, NONE));
        x = with("na:+p1/8,+ib;ab:1;nc:+p1/8,rb;nd:-ic,+a;ne:-if,+a;nf:+p1/8;");
        checkIs(x, "a", 1, 0, is(2, 0, 0, 0, 0));
        checkIs(x, "a", 2, 0, is(5, 1, 0, NONE, NONE));
        checkIs(x, "c", 2, 0, is(5, 1, 0, NONE, NONE));
        checkIs(x, "d", 2, 0, is(5, 2, 0, NONE, NONE));
        checkIs(x, "d", 1, 0, is(3, 1, 0, 3, 0));
        checkIs(x, "e", 2, 0, is(2, 1, 0, 4, 1));
        x = with("na:-p1/8,ra;nb:+p1/8,+ib;nc:+ip,-a;nd:+a,rp;ne:-p1/8,rp;");
        checkIs(x, "a", 2, 0, is(5, 11, 0, NONE, NONE));
        checkIs(x, "a", 1, 0, is(3, 0, 0, 0, 0));
        checkIs(x, "b", 2, 0, is(5, 11, 0, NONE, NONE));
        checkIs(x, "c", 2, 0, is(5, 1, 0, NONE, NONE));
        checkIs(x, "d", 2, 0, is(2, 0, 0, 3, 0));
        checkIs(x, "e", 2, 0, is(5, 1, 0, NONE, NONE));
    }

    private static void checkLimits() {
        promise = 7;
        SendRules x = with("na:+hp,+hp,+hp,+hp,+hp,-ib;nb:+hp,+hp,+hp,+hp;ap:9;nc:?ia,-a;");
        checkIs(x, "a", 1, 0, is(1, 10, 0, NONE, NONE));
        checkIs(x, "c", 1, 0, is(5, 11, 0, NONE, NONE));
        checkIs(x, "c", 9, 0, is(1, 2, 0, 2, 0));
        x = with("na:+hb,+mb,-a;nc:+hb,+mb,+eb;nd:+mb,~ia,-a;ne:~id,+hb,-a;nf:+mc,+hp,~ec,?hc;xc:b;");
        checkIs(x, "a", 1, 0, is(3, 2, 2, number(x, "a"), 2));
        checkIs(x, "c", 1, 0, is(5, 3, 3, NONE, NONE));
        checkIs(x, "d", 1, 0, is(5, 4, 3, NONE, NONE));
        checkIs(x, "e", 1, 0, is(5, 5, 3, NONE, NONE));
        checkIs(x, "f", 1, 0, is(5, 4, 3, NONE, NONE));
        // The 11th lookup ends the check before it can be counted as an empty one.
        x = with("na:+hp,+hp,+hp,+hp,+hp,+hp,+hp,-ib;nb:+hp,+hp,+hc;ap:9;nd:+hc,+hc,ra;");
        checkIs(x, "a", 1, 0, is(5, 11, 0, NONE, NONE));
        checkIs(x, "d", 1, 0, is(5, 11, 2, NONE, NONE));
        x = with("na:+hp,+hp,+hp,+hp,+hp,+hp,+hp,-ib;nb:+hc,+hc;ap:9;");
        checkIs(x, "a", 1, 0, is(1, 10, 2, NONE, NONE));
        x = with("na:+hp,+hp,+hp,+hp,+hp,+hp,-ib;nb:+hc,+hc,+hc;ap:9;");
        checkIs(x, "a", 1, 0, is(5, 10, 3, NONE, NONE));
    }

    private static void macro(String macro, String hit, String from, int address, int letter) {
        SendRules x = with("nabc:-ide,rd;nde:+e" + macro + ";nd:~e" + macro + ";a" + hit + ":0;");
        int number = number(x, from);
        due("check of " + from + " with " + macro + " and host " + hit, x.check(number, address, letter),
            from.equals("de") ? 2 : from.equals("d") ? 4 : 3);
    }

    private static void checkMacros() {
        promise = 7;
        macro("p", "p", "de", 0, 0);
        macro("hgf", "hgf", "de", 0, 0);
        macro("%d", "de", "de", 0, 0);
        macro("%-d", "ed", "de", 0, 0);
        macro("%1d", "e", "de", 0, 0);
        macro("%-1d", "d", "de", 0, 0);
        macro("%7d", "de", "de", 0, 0);
        macro("%d%o", "deabc", "abc", 0, 0);
        macro("%2o%d", "bcde", "abc", 0, 0);
        macro("%-2o%d", "bade", "abc", 0, 0);
        macro("%s", "abcd", "de", 0b00011011, 0);
        macro("%-s", "dcba", "de", 0b00011011, 0);
        macro("%s", "dddd", "de", 255, 0);
        macro("%3s", "bcd", "de", 0b00011011, 0);
        macro("%-3s", "cba", "de", 0b00011011, 0);
        macro("%5s", "abcd", "de", 0b00011011, 0);
        macro("%l", "p", "d", 0, 15);
        macro("%l%l", "aa", "d", 0, 0);
        macro("%-7l%1l", "cc", "d", 0, 2);
        macro("%s%o", "dcbaabc", "abc", 0b11100100, 0);
        macro("abcdefgh", "bcdefgh", "de", 0, 0);
        macro("%s%s%s%s%s%s%s%s", "bcdabcd", "de", 0b00011011, 0);
        macro("%o%d%s", "cdeabcd", "abc", 0b00011011, 0);
    }

    private static void kept() {
        promise = 8;
        SendRules x = new SendRules();
        for (int k = 0; k < 6; k++) {
            x.check(k % 2, k, k % 3);
            due("kept checks", x.count(4), Math.min(4, k + 1));
        }
        for (int k = 0; k < 4; k++) {
            due("name", x.kept(k, 0), (5 - k) % 2);
            due("address", x.kept(k, 1), 5 - k);
            due("letter", x.kept(k, 2), (5 - k) % 3);
        }
        due("a fifth one", x.kept(4, 0), NONE);
        due("far", x.kept(HIGH, 7), NONE);
        x.check(1, 3, 0);
        int[] addresses = {3, 5, 4, 2};
        for (int k = 0; k < 4; k++) {
            due("address after a check made again", x.kept(k, 1), addresses[k]);
        }
        x.check(1, 3, 1);
        x.check(0, 3, 0);
        due("checks that differ in a letter or a name", x.kept(1, 2) * 100 + x.kept(2, 1) * 10 + x.kept(2, 2), 130);
        x.check(9, 3, 0);
        due("a wrong check isn't kept", x.kept(0, 0), 0);
        x.many(0, 1, 2);
        x.dead(0, 1);
        x.lookups(0, 1, 1, 0);
        due("counting keeps no checks", x.kept(0, 1) + x.count(4), 7);
        for (int[] bad : new int[][] {{-1, 0}, {LOW, 0}, {0, -1}, {0, 8}, {9, 8}, {9, -1}, {0, HIGH}, {-1, 9}}) {
            due("kept", x.kept(bad[0], bad[1]), BAD);
        }
        SendRules y = new SendRules();
        due("without checks", y.kept(0, 7), NONE);
        due("without checks, wrong what", y.kept(0, 8), BAD);
    }

    private static void sign() {
        promise = 9;
        SendRules x = with("na:+a,-p1/8;nb:~a,?a;ac:1;");
        int[] results = {2, 3, 4, 1};
        int before = 0;
        for (int sign : new int[] {3, 2, 1, 0}) {
            x.check(0, 0, 0);
            due("same sign", x.sign(0, 0, before), NO);
            due("kept stays", x.count(4), 1);
            due("sign", x.sign(0, 0, sign), before);
            due("kept is removed", x.count(4), 0);
            due("rule's sign", x.rule(0, 0, 0), sign);
            due("check", x.check(0, 0, 0), results[sign]);
            before = sign;
        }
        due("other rules", x.rule(0, 1, 0) * 100 + x.rule(1, 0, 0) * 10 + x.rule(1, 1, 0), 123);
        for (int[] bad : new int[][] {{-1, 0, 1}, {3, 0, 1}, {2, 0, 1}, {0, 2, 1}, {0, -1, 1}, {0, 0, 4}, {0, 0, -1},
            {HIGH, 0, 0}, {0, HIGH, 0}, {0, 0, HIGH}, {LOW, LOW, LOW}}) {
            due("sign", x.sign(bad[0], bad[1], bad[2]), BAD);
        }
        due("changes", x.count(5), 4);
    }

    private static void swap() {
        promise = 10;
        SendRules x = with("na:+p1/1,-ib,~a;nb:?a;ac:1;");
        x.check(0, 0, 0);
        due("last rule", x.swap(0, 2), NO);
        due("only rule", x.swap(1, 0), NO);
        due("kept stays", x.count(4), 1);
        due("swap", x.swap(0, 0), 3);
        due("kept is removed", x.count(4), 0);
        due("first kind", x.rule(0, 0, 1), 2);
        due("first sign", x.rule(0, 0, 0), 1);
        due("first name", x.rule(0, 0, 4), 1);
        due("second kind", x.rule(0, 1, 1), 1);
        due("third kind", x.rule(0, 2, 1), 0);
        due("swap the second", x.swap(0, 1), 3);
        due("third is the prefix", x.rule(0, 2, 2) * 10 + x.rule(0, 2, 3), 11);
        due("undo", x.undo() + x.undo(), 1);
        due("first is the prefix", x.rule(0, 0, 2) * 10 + x.rule(0, 0, 3), 11);
        for (int[] bad : new int[][] {{-1, 0}, {3, 0}, {2, 0}, {0, 3}, {0, -1}, {1, 1}, {HIGH, 0}, {0, HIGH}, {0, LOW}}) {
            due("swap", x.swap(bad[0], bad[1]), BAD);
        }
        SendRules y = with("na:+a,+a;");
        due("the same rules are exchanged too", y.swap(0, 0) + y.count(5), 3);
    }

    private static void host() {
        promise = 11;
        SendRules x = with("na:+ha;ab:7,8,7;xc:a;");
        x.check(0, 0, 0);
        due("remove what isn't a host", x.host(0, 0, 0), NO);
        due("add what is a host", x.host(1, 8, 1), NO);
        due("kept stays", x.count(4), 1);
        due("add to a name without hosts", x.host(0, 255, 1), 1);
        due("kept is removed", x.count(4), 0);
        due("check", x.check(0, 255, 0), 2);
        due("add", x.host(1, 0, 1), 4);
        due("at the end", x.hostOf(1, 3), 0);
        due("a fifth one", x.host(1, 1, 1), FULL);
        due("a fifth one that is there", x.host(1, 7, 1), NO);
        due("a fifth one, wrong", x.host(1, 256, 1), BAD);
        due("remove the first one", x.host(1, 7, 0), 3);
        due("the others move", x.hostOf(1, 0) * 100 + x.hostOf(1, 1) * 10 + x.hostOf(1, 2), 870);
        due("remove the other one", x.host(1, 7, 0), 2);
        due("remove all", x.host(1, 8, 0) + x.host(1, 0, 0), 1);
        due("no host is left", x.hostOf(1, 0), NONE);
        due("the name stays", x.count(0), 3);
        for (int[] bad : new int[][] {{-1, 0, 1}, {3, 0, 1}, {0, -1, 1}, {0, 256, 0}, {0, 0, 2}, {0, 0, -1}, {HIGH, 0, 1},
            {0, HIGH, 1}, {0, 0, HIGH}, {LOW, LOW, LOW}}) {
            due("host", x.host(bad[0], bad[1], bad[2]), BAD);
        }
    }

    private static void undo() {
        promise = 12;
        SendRules x = with("na:+a,-a,~a;ab:7,8,7,9;");
        due("undo nothing", x.undo(), NO);
        x.check(0, 0, 0);
        due("undo nothing", x.undo(), NO);
        due("kept stays", x.count(4), 1);
        x.host(1, 7, 0);
        x.host(1, 9, 0);
        x.host(1, 3, 1);
        due("hosts", hosts(x, 1), 873);
        x.check(0, 0, 0);
        due("undo the addition", x.undo(), 2);
        due("kept is removed", x.count(4), 0);
        due("hosts", hosts(x, 1), 87);
        due("undo the removal of the last", x.undo(), 1);
        due("hosts", hosts(x, 1), 879);
        due("undo the removal of the first", x.undo(), 0);
        due("hosts", hosts(x, 1), 7879);
        due("undo nothing", x.undo(), NO);
        for (int k = 0; k < 3; k++) {
            x.sign(0, k, 3);
        }
        x.swap(0, 0);
        x.swap(0, 1);
        x.host(1, 8, 0);
        due("changes", x.count(5), 4);
        due("undo", x.undo(), 3);
        due("hosts", hosts(x, 1), 7879);
        due("undo", x.undo(), 2);
        due("undo", x.undo(), 1);
        due("undo", x.undo(), 0);
        due("undo the fifth one", x.undo(), NO);
        due("signs", x.rule(0, 0, 0) * 100 + x.rule(0, 1, 0) * 10 + x.rule(0, 2, 0), 332);
        due("changes", x.count(5), 0);
        x.sign(0, 2, 0);
        type(x, "na:+a;");
        due("lay", x.lay(), 1);
        due("undo after lay", x.undo(), NO);
    }

    private static int hosts(SendRules x, int name) {
        int all = 0;
        for (int k = 0; k < x.name(name, 2); k++) {
            all = all * 10 + x.hostOf(name, k);
        }
        return all;
    }

    private static void properties() {
        promise = 13;
        SendRules x = with("nabcdefg:+a,-p12/3,~iabcdefg,?ip,+mb,-hb,~eb,rb;ab:1,1;xb:c,c,b;np:+a,rc;");
        int[][] names = {{1, 0, 2, 3, NONE, 0}, {7, 7, 0, 0, 0, 1}, {1, 1, 0, 0, NONE, 1}};
        for (int n = 0; n < names.length; n++) {
            for (int what = 0; what < 6; what++) {
                due("name " + n + ", " + what, x.name(n, what), names[n][what]);
            }
        }
        for (int[] bad : new int[][] {{-1, 0}, {3, 0}, {0, -1}, {0, 6}, {HIGH, 0}, {0, HIGH}, {LOW, LOW}}) {
            due("name", x.name(bad[0], bad[1]), BAD);
        }
        promise = 14;
        for (int k = 0; k < 7; k++) {
            due("letter " + k, x.letter(1, k), k);
        }
        due("letter 7", x.letter(1, 7), NONE);
        due("letter of p", x.letter(2, 0), 15);
        due("second letter of p", x.letter(2, 1), NONE);
        due("far letter", x.letter(2, HIGH), NONE);
        for (int[] bad : new int[][] {{-1, 0}, {3, 0}, {0, -1}, {HIGH, 9}, {0, LOW}, {3, 99}}) {
            due("letter", x.letter(bad[0], bad[1]), BAD);
        }
        promise = 15;
        int[][] rules = {{0, 0, NONE, NONE, NONE}, {1, 1, 12, 3, NONE}, {2, 2, NONE, NONE, 1}, {3, 2, NONE, NONE, 2},
            {0, 4, NONE, NONE, 0}, {1, 3, NONE, NONE, 0}, {2, 5, NONE, NONE, NONE}};
        for (int r = 0; r < rules.length; r++) {
            for (int what = 0; what < 5; what++) {
                due("rule " + r + ", " + what, x.rule(1, r, what), rules[r][what]);
            }
        }
        for (int[] bad : new int[][] {{-1, 0, 0}, {3, 0, 0}, {0, 0, 0}, {1, 7, 2}, {1, -1, 0}, {1, 0, 5}, {1, 0, -1},
            {HIGH, 0, 0}, {1, HIGH, 0}, {1, 0, HIGH}, {LOW, LOW, LOW}}) {
            due("rule", x.rule(bad[0], bad[1], bad[2]), BAD);
        }
        SendRules y = with("na:+ib,+hb,+mb,+ia;");
        due("names that aren't known", y.rule(0, 0, 4) + y.rule(0, 1, 4) + y.rule(0, 2, 4), 3 * NONE);
        due("the name itself", y.rule(0, 3, 4), 0);
        promise = 16;
        SendRules z = with("na:+a;ab:255,0,7,7;");
        int[] hosts = {255, 0, 7, 7, NONE, NONE};
        for (int k = 0; k < hosts.length; k++) {
            due("host " + k, z.hostOf(1, k), hosts[k]);
        }
        due("host of a name without hosts", z.hostOf(0, 0), NONE);
        due("far host", z.hostOf(1, HIGH), NONE);
        for (int[] bad : new int[][] {{-1, 0}, {2, 0}, {1, -1}, {HIGH, 9}, {1, LOW}}) {
            due("hostOf", z.hostOf(bad[0], bad[1]), BAD);
        }
    }

    private static void many() {
        promise = 17;
        SendRules x = with("na:+p128/1,-p64/2,~p32/3,?p16/4,rb;nb:+p1/8;ac:1;nd:+p0/7,rp;ne:+e%l;af:9;");
        int[][] due = {{0, 16 + 15, 129, 64, 32, 0}, {0, 255, 1, 0, 0, 0}, {256, 0, 0, 0, 0, 0}, {0, 0, 2, 0, 0, 254}};
        for (int n = 0; n < due.length; n++) {
            for (int answer = 0; answer < 6; answer++) {
                due("many " + n + ", " + answer, x.many(n, 0, answer), due[n][answer]);
            }
        }
        due("letter f", x.many(4, 5, 2), 256);
        due("letter g", x.many(4, 6, 2), 0);
        for (int[] bad : new int[][] {{-1, 0, 0}, {6, 0, 0}, {0, -1, 0}, {0, 16, 0}, {0, 0, -1}, {0, 0, 6}, {HIGH, 0, 0},
            {0, HIGH, 0}, {0, 0, HIGH}, {LOW, LOW, LOW}}) {
            due("many", x.many(bad[0], bad[1], bad[2]), BAD);
        }
    }

    private static void dead() {
        promise = 18;
        SendRules x = with("na:+p0/1,-p64/2,~ib,?p255/8,+a,-a;nb:+p128/8,-a;ac:1;nd:-p1/8,rb;ne:+e%l,-p3/8,re;af:9;");
        due("dead of a", x.dead(0, 0), 0b100010);
        due("dead of b", x.dead(1, 0), 0);
        due("dead of a name without a policy", x.dead(2, 0), 0);
        due("dead of d", x.dead(3, 0), 0);
        due("dead of e with f", x.dead(4, 5), 0b10);
        due("dead of e with g", x.dead(4, 6), 0b01);
        SendRules y = with("na:-ib,+p9/8,-ip;nb:+p9/8;");
        due("a rule that ends the check", y.dead(0, 0), 0b110);
        SendRules z = with("na:+p1/8,rb;nb:-p2/8,-p1/8,~p3/8;nc:+p1/8,-p1/8,-p1/8,-p1/8,-p1/8,-p1/8,-p1/8,-p1/8;");
        due("rules of a redirect count for its own name only", z.dead(0, 0) * 8 + z.dead(1, 0), 0);
        due("eight rules", z.dead(2, 0), 0b11111110);
        SendRules w = with("na:+p0/8,+p255/8;");
        due("the first and the last address", w.dead(0, 0), 0);
        w = with("na:+p128/1,+p64/2,+p32/3,+p16/4,+p8/5,+p4/6,+p2/7,+p1/7;");
        due("eight rules that each decide", w.dead(0, 0), 0);
        for (int[] bad : new int[][] {{-1, 0}, {6, 0}, {0, -1}, {0, 16}, {HIGH, 0}, {0, HIGH}, {LOW, LOW}}) {
            due("dead", x.dead(bad[0], bad[1]), BAD);
        }
    }

    private static void lookups() {
        promise = 19;
        SendRules x = with("na:+p0/8,+hb;nb:+p0/0;nc:+ic;nd:+p0/1,rb;ne:+e%l,+hf;af:9;");
        due("sum of a", x.lookups(0, 0, 1, 0), 255);
        due("0 times the sum", x.lookups(0, 0, 0, 0), 0);
        due("7 times the sum", x.lookups(0, 0, 7, 0), 7 * 255);
        due("mean of a", x.lookups(0, 0, 1, 1), Float.floatToIntBits(255 / 256f));
        due("mean of a, n is ignored", x.lookups(0, 0, LOW, 1), Float.floatToIntBits(255 / 256f));
        due("mean of a, n is ignored", x.lookups(0, 0, HIGH, 1), Float.floatToIntBits(255 / 256f));
        due("sum of b", x.lookups(1, 0, HIGH, 0), 0);
        due("mean of b", x.lookups(1, 0, 1, 1), 0);
        due("sum of c", x.lookups(2, 0, 1, 0), 11 * 256);
        due("mean of c", x.lookups(2, 0, 1, 1), Float.floatToIntBits(11f));
        due("mean of d", x.lookups(3, 0, 1, 1), Float.floatToIntBits(0.5f));
        due("sum of e with f", x.lookups(4, 5, 1, 0), 256);
        due("sum of e with g", x.lookups(4, 6, 1, 0), 512);
        due("the greatest product", x.lookups(0, 0, 8421504, 0), 2147483520);
        due("a greater one", x.lookups(0, 0, 8421505, 0), FULL);
        due("8388607 times 256", x.lookups(4, 5, 8388607, 0), 2147483392);
        due("8388608 times 256", x.lookups(4, 5, 8388608, 0), FULL);
        due("16777216 times 256", x.lookups(4, 5, 16777216, 0), FULL);
        SendRules y = with("na:+p128/1,+p64/2,+p32/3,+p16/4,+p8/5,+p4/6,+p2/7,+p1/8,rb;nb:+a;");
        due("a sum of 1, times the greatest factor", y.lookups(0, 0, HIGH, 0), HIGH);
        due("a mean of 1/256", y.lookups(0, 0, 1, 1), Float.floatToIntBits(1 / 256f));
        due("the greatest factor", x.lookups(2, 0, HIGH, 0), FULL);
        for (int[] bad : new int[][] {{-1, 0, 1, 0}, {6, 0, 1, 0}, {0, -1, 1, 0}, {0, 16, 1, 0}, {0, 0, -1, 0}, {0, 0, LOW, 0},
            {0, 0, 1, -1}, {0, 0, 1, 2}, {6, 0, HIGH, 0}, {0, 0, HIGH, HIGH}, {2, 16, HIGH, 0}}) {
            due("lookups", x.lookups(bad[0], bad[1], bad[2], bad[3]), BAD);
        }
    }

    private static void leads() {
        promise = 20;
        SendRules x = with("na:+ib,-a,+ip,rg;nb:+hf,rc;nc:+a,+id;nd:-ie,rb;ne:+mf,+ea;nf:+if;ag:1;xh:a;");
        int[] due = {0b11110, 0b11110, 0b11110, 0b11110, 0, 0b100000, 0, 0};
        for (int k = 0; k < due.length; k++) {
            due("leads " + k, x.leads(k), due[k]);
        }
        x.host(6, 1, 0);
        due("leads 0", x.leads(0), 0b11110);
        for (int bad : new int[] {-1, 8, LOW, HIGH}) {
            due("leads", x.leads(bad), BAD);
        }
        SendRules y = with("nl:+ik;nk:+ij;nj:+ii;ni:+ih;nh:+ig;ng:+if;nf:+ie;ne:+id;nd:+ic;nc:+ib;nb:+ia;na:+il;");
        due("a ring of all names", y.leads(11), 0b111111111111);
        due("a ring of all names", y.leads(0), 0b111111111111);
    }

    private static void count() {
        promise = 21;
        SendRules x = with("na:+a,-a,rb;nb:+a;ac:1,1;ad:1;xe:a,b,c;");
        int[] due = {5, 2, 3, 3, 0, 0, 39};
        for (int k = 0; k < due.length; k++) {
            due("count " + k, x.count(k), due[k]);
        }
        x.host(4, 9, 1);
        x.check(0, 0, 0);
        x.check(0, 0, 1);
        due("hosts", x.count(3), 4);
        due("kept", x.count(4), 2);
        due("changes", x.count(5), 1);
        x.wipe();
        due("text", x.count(6), 0);
        due("names", x.count(0), 5);
        for (int bad : new int[] {-1, 7, LOW, HIGH}) {
            due("count " + bad, x.count(bad), BAD);
        }
    }

    public static void main(String[] args) {
        newObject();
        write();
        wipe();
        faultOfPolicies();
        faultOfOthers();
        lay();
        layAgain();
        order();
        checkRules();
        checkLeading();
        checkLimits();
        checkMacros();
        kept();
        sign();
        swap();
        host();
        undo();
        properties();
        many();
        dead();
        lookups();
        leads();
        count();
        System.out.println(wrong == 0 ? "all promises hold" : wrong + " answers are not as due");
        if (wrong != 0) {
            System.exit(1);
        }
    }
}
