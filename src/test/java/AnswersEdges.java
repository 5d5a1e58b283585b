/** The boundary cases of the promises that answer: 7 and 8, 13 to 21, a test for each sentence. */
public final class AnswersEdges {
    private static final int[] FAR = {-1, Edge.LOW, Edge.HIGH};

    private static void checkIsKept() {
        Edge.of("Promise 7", "Makes a check, which is kept.");
        SendRules x = new SendRules();
        x.check(4, 255, 15);
        Edge.due("one is kept", x.count(4), 1);
        Edge.due("it", Edge.keptChecks(x), "4 255 15 0 0 0 -4 -4; ");
        x.check(0, 0, 0);
        Edge.due("two are kept", x.count(4), 2);
        x.check(0, 0, 0);
        Edge.due("the same is kept once", x.count(4), 2);
        Edge.due("they", Edge.keptChecks(x), "0 0 0 3 2 0 0 3; 4 255 15 0 0 0 -4 -4; ");
    }

    private static void checkRange() {
        Edge.of("Promise 7", "Returns the result, 0 to 5");
        SendRules x = Edge.laid("na:?p1/8,+p2/8,-p3/8,~p4/8,+ip;ab:1;");
        int[] due = {5, 1, 2, 3, 4, 5, 5};
        for (int address = 0; address < due.length; address++) {
            Edge.due("check of a for " + address, x.check(0, address, 0), due[address]);
            Edge.due("check of b for " + address, x.check(1, address, 0), 0);
        }
        Edge.of("Promise 7", "BAD if an argument is out of range");
        x = new SendRules();
        for (int far : FAR) {
            Edge.due("check(" + far + ", 0, 0)", x.check(far, 0, 0), Edge.BAD);
            Edge.due("check(0, " + far + ", 0)", x.check(0, far, 0), Edge.BAD);
            Edge.due("check(0, 0, " + far + ")", x.check(0, 0, far), Edge.BAD);
        }
        Edge.due("name 5", x.check(5, 0, 0), Edge.BAD);
        Edge.due("name 12", x.check(12, 0, 0), Edge.BAD);
        Edge.due("address 256", x.check(0, 256, 0), Edge.BAD);
        Edge.due("letter 16", x.check(0, 0, 16), Edge.BAD);
        Edge.due("none is kept", x.count(4), 0);
        Edge.due("the last of each", x.check(4, 255, 15), 0);
        Edge.due("the first of each", x.check(0, 0, 0), 3);
        x = Edge.laid("nl:+a;nk:+a;nj:+a;ni:+a;nh:+a;ng:+a;nf:+a;ne:+a;nd:+a;nc:+a;nb:+a;na:-a;");
        Edge.due("name 11 of 12", x.check(11, 0, 0), 2);
        Edge.due("name 12 of 12", x.check(12, 0, 0), Edge.BAD);
    }

    private static void keptValues() {
        Edge.of("Promise 8", "0 the name, 1 the address, 2 the letter, 3 the result, 4 the number of lookups, 5 the number of empty "
            + "lookups, 6 the name of the deciding rule, 7 its index in the policy of this name, from 0 (6 and 7: NONE if there is none)");
        SendRules x = Edge.laid("na:-ho,rb;nb:+hc,+p1/8,+p2/8,+p3/8,+p4/8,+p5/8,+p6/8,-p7/8;ac:9;nd:+id;ne:-ho,-ho,-ho;nf:?a;");
        x.check(0, 7, 14);
        Edge.due("the eighth rule of the redirect's name", Edge.keptChecks(x), "0 7 14 3 3 1 1 7; ");
        x.check(0, 9, 15);
        Edge.due("its first rule", Edge.keptChecks(x), "0 9 15 2 3 1 1 0; 0 7 14 3 3 1 1 7; ");
        x.check(0, 10, 0);
        x.check(2, 255, 1);
        Edge.due("result 1 without a rule, and result 0", Edge.keptChecks(x),
            "2 255 1 0 0 0 -4 -4; 0 10 0 1 3 1 -4 -4; 0 9 15 2 3 1 1 0; 0 7 14 3 3 1 1 7; ");
        x.check(3, 0, 0);
        x.check(4, 0, 0);
        x.check(5, 0, 0);
        Edge.due("result 1 by a rule, and results 5", Edge.keptChecks(x),
            "5 0 0 1 0 0 5 0; 4 0 0 5 3 3 -4 -4; 3 0 0 5 11 0 -4 -4; 2 255 1 0 0 0 -4 -4; ");
    }

    private static void keptIndex() {
        Edge.of("Promise 8", "k`: the index of the check, 0 for the latest one");
        SendRules x = new SendRules();
        for (int made = 0; made < 6; made++) {
            x.check(0, made, 0);
            for (int k = 0; k < Math.min(4, made + 1); k++) {
                Edge.due("kept(" + k + ", 1) of " + (made + 1), x.kept(k, 1), made - k);
            }
        }
        Edge.of("Promise 8", "NONE if not so many checks are kept");
        x = new SendRules();
        for (int made = 0; made < 6; made++) {
            for (int what = 0; what < 8; what++) {
                Edge.due("behind the last of " + made, x.kept(Math.min(4, made), what), Edge.NONE);
            }
            Edge.due("far behind", x.kept(Edge.HIGH, 0), Edge.NONE);
            Edge.due("4 behind", x.kept(4 + made, 7), Edge.NONE);
            x.check(0, made, 0);
        }
        x.undo();
        Edge.due("a refused undo removes none", x.kept(3, 1), 2);
        x.sign(0, 0, 1);
        Edge.due("a change removes them", x.kept(0, 1), Edge.NONE);
    }

    private static void keptRange() {
        Edge.of("Promise 8", "BAD if k is negative or what is out of range");
        SendRules x = new SendRules();
        for (int made = 0; made < 2; made++) {
            for (int far : FAR) {
                Edge.due("kept(0, " + far + ")", x.kept(0, far), Edge.BAD);
                Edge.due("kept(9, " + far + ")", x.kept(9, far), Edge.BAD);
            }
            Edge.due("kept(0, 8)", x.kept(0, 8), Edge.BAD);
            Edge.due("kept(-1, 0)", x.kept(-1, 0), Edge.BAD);
            Edge.due("kept(LOW, 7)", x.kept(Edge.LOW, 7), Edge.BAD);
            Edge.due("kept(-1, 8)", x.kept(-1, 8), Edge.BAD);
            x.check(0, 0, 0);
        }
    }

    private static void nameProperties() {
        Edge.of("Promise 13", "0 the number of its letters, 1 of its rules, 2 of its hosts, 3 of its exchangers, 4 the number of the "
            + "name to which it redirects (NONE if there is no redirect or this name is not known), 5 whether it has a policy (1 or 0)");
        SendRules x = Edge.laid("na:+a,ra;nb:+a,+a,+a,+a,+a,+a,+a,+a,rabcdefg;aabcdefg:1,1,1,1;xh:p,p,p;nip:+a,rp;nj:+a,rh;xj:a;aj:0;");
        int[][] due = {{1, 1, 0, 0, 0, 1}, {1, 8, 0, 0, 2, 1}, {7, 0, 4, 0, Edge.NONE, 0}, {1, 0, 0, 3, Edge.NONE, 0},
            {1, 1, 1, 1, 3, 1}, {2, 1, 0, 0, Edge.NONE, 1}};
        for (int n = 0; n < due.length; n++) {
            for (int what = 0; what < 6; what++) {
                Edge.due("name(" + n + ", " + what + ")", x.name(n, what), due[n][what]);
            }
        }
        x.host(2, 1, 0);
        x.host(0, 255, 1);
        Edge.due("the hosts after a change", x.name(2, 2) * 10 + x.name(0, 2), 31);
        Edge.of("Promise 13", "BAD if there is no such name or what is out of range");
        for (int far : FAR) {
            Edge.due("name(" + far + ", 0)", x.name(far, 0), Edge.BAD);
            Edge.due("name(0, " + far + ")", x.name(0, far), Edge.BAD);
        }
        for (int what = 0; what < 7; what++) {
            Edge.due("name(6, " + what + ")", x.name(6, what), Edge.BAD);
        }
        Edge.due("name(0, 6)", x.name(0, 6), Edge.BAD);
    }

    private static void letters() {
        Edge.of("Promise 14", "Returns the letter, 0 to 15; NONE if the name has not so many letters");
        SendRules x = Edge.laid("na:+a;ap:1;abcdefgp:1;aap:1;");
        int[][] due = {{0}, {15}, {0, 15}, {1, 2, 3, 4, 5, 6, 15}};
        for (int n = 0; n < due.length; n++) {
            for (int k = 0; k < 9; k++) {
                Edge.due("letter(" + n + ", " + k + ")", x.letter(n, k), k < due[n].length ? due[n][k] : Edge.NONE);
            }
            Edge.due("letter(" + n + ", HIGH)", x.letter(n, Edge.HIGH), Edge.NONE);
        }
        Edge.of("Promise 14", "BAD if there is no such name or k is negative");
        for (int far : FAR) {
            Edge.due("letter(" + far + ", 0)", x.letter(far, 0), Edge.BAD);
        }
        Edge.due("letter(4, 0)", x.letter(4, 0), Edge.BAD);
        Edge.due("letter(4, 9)", x.letter(4, 9), Edge.BAD);
        for (int n = 0; n < 4; n++) {
            Edge.due("letter(" + n + ", -1)", x.letter(n, -1), Edge.BAD);
            Edge.due("letter(" + n + ", LOW)", x.letter(n, Edge.LOW), Edge.BAD);
        }
    }

    private static void rules() {
        Edge.of("Promise 15", "0 its sign (0 for +, 1 for -, 2 for ~, 3 for ?), 1 its kind (0 all, 1 prefix, 2 include, 3 host, 4 mail, "
            + "5 exists), 2 A and 3 L of a prefix (NONE for other kinds), 4 the number of its name (NONE if it has none, or the name is "
            + "not known)");
        SendRules x = Edge.laid("na:+a,-p0/0,~p255/8,?ia,+hb,-mc,~ea,?e%d;nb:+io,-hp,~mo,?e%o;xc:b;");
        int none = Edge.NONE;
        int[][] a = {{0, 0, none, none, none}, {1, 1, 0, 0, none}, {2, 1, 255, 8, none}, {3, 2, none, none, 0},
            {0, 3, none, none, 1}, {1, 4, none, none, 2}, {2, 5, none, none, none}, {3, 5, none, none, none}};
        int[][] b = {{0, 2, none, none, none}, {1, 3, none, none, none}, {2, 4, none, none, none}, {3, 5, none, none, none}};
        for (int what = 0; what < 5; what++) {
            for (int r = 0; r < a.length; r++) {
                Edge.due("rule(0, " + r + ", " + what + ")", x.rule(0, r, what), a[r][what]);
            }
            for (int r = 0; r < b.length; r++) {
                Edge.due("rule(1, " + r + ", " + what + ")", x.rule(1, r, what), b[r][what]);
            }
        }
        Edge.of("Promise 15", "BAD if an argument is not as described");
        for (int far : FAR) {
            Edge.due("rule(" + far + ", 0, 0)", x.rule(far, 0, 0), Edge.BAD);
            Edge.due("rule(0, " + far + ", 0)", x.rule(0, far, 0), Edge.BAD);
            Edge.due("rule(0, 0, " + far + ")", x.rule(0, 0, far), Edge.BAD);
        }
        for (int what = 0; what < 5; what++) {
            Edge.due("no such name", x.rule(3, 0, what), Edge.BAD);
            Edge.due("a ninth rule", x.rule(0, 8, what), Edge.BAD);
            Edge.due("a fifth rule of four", x.rule(1, 4, what), Edge.BAD);
            Edge.due("a name without a policy", x.rule(2, 0, what), Edge.BAD);
        }
        Edge.due("no such what", x.rule(0, 0, 5), Edge.BAD);
    }

    private static void hostsOf() {
        Edge.of("Promise 16", "Returns the address; NONE if the name has not so many hosts");
        SendRules x = Edge.laid("na:+a;ab:255,0,7,7;ac:0;");
        int[][] due = {{}, {255, 0, 7, 7}, {0}};
        for (int n = 0; n < due.length; n++) {
            for (int k = 0; k < 6; k++) {
                Edge.due("hostOf(" + n + ", " + k + ")", x.hostOf(n, k), k < due[n].length ? due[n][k] : Edge.NONE);
            }
            Edge.due("hostOf(" + n + ", HIGH)", x.hostOf(n, Edge.HIGH), Edge.NONE);
        }
        x.host(1, 255, 0);
        Edge.due("after a removal", x.hostOf(1, 0), 0);
        Edge.due("behind the end then", x.hostOf(1, 3), Edge.NONE);
        x.host(2, 0, 0);
        Edge.due("no host is left", x.hostOf(2, 0), Edge.NONE);
        Edge.of("Promise 16", "BAD if there is no such name or k is negative");
        for (int far : FAR) {
            Edge.due("hostOf(" + far + ", 0)", x.hostOf(far, 0), Edge.BAD);
        }
        Edge.due("hostOf(3, 0)", x.hostOf(3, 0), Edge.BAD);
        Edge.due("hostOf(3, 9)", x.hostOf(3, 9), Edge.BAD);
        Edge.due("hostOf(0, -1)", x.hostOf(0, -1), Edge.BAD);
        Edge.due("hostOf(1, LOW)", x.hostOf(1, Edge.LOW), Edge.BAD);
    }

    private static void many() {
        Edge.of("Promise 17", "Counts the addresses whose checks have a given result.");
        Edge.due("the address 0", Edge.laid("na:-p0/8,+a;").many(0, 0, 3), 1);
        Edge.due("the address 255", Edge.laid("na:-p255/8,+a;").many(0, 0, 3), 1);
        Edge.of("Promise 17", "Returns the number of addresses from 0 to 255");
        SendRules x = Edge.laid("na:-a;ab:1;nc:+p0/8,~p255/8;nd:?p0/1,+ip;ne:+e%l,~p128/1,-a;af:9;");
        int[][] due = {{0, 0, 0, 256, 0, 0}, {256, 0, 0, 0, 0, 0}, {0, 254, 1, 0, 1, 0}, {0, 128, 0, 0, 0, 128},
            {0, 0, 0, 128, 128, 0}};
        for (int n = 0; n < due.length; n++) {
            for (int answer = 0; answer < 6; answer++) {
                Edge.due("many(" + n + ", 0, " + answer + ")", x.many(n, 0, answer), due[n][answer]);
            }
        }
        Edge.due("many(4, 5, 2)", x.many(4, 5, 2), 256);
        Edge.due("many(4, 15, 2)", x.many(4, 15, 2), 0);
        Edge.of("Promise 17", "BAD if an argument is out of range");
        for (int far : FAR) {
            Edge.due("many(" + far + ", 0, 0)", x.many(far, 0, 0), Edge.BAD);
            Edge.due("many(0, " + far + ", 0)", x.many(0, far, 0), Edge.BAD);
            Edge.due("many(0, 0, " + far + ")", x.many(0, 0, far), Edge.BAD);
        }
        Edge.due("many(6, 0, 0)", x.many(6, 0, 0), Edge.BAD);
        Edge.due("many(0, 16, 0)", x.many(0, 16, 0), Edge.BAD);
        Edge.due("many(0, 0, 6)", x.many(0, 0, 6), Edge.BAD);
        Edge.due("the last of each", x.many(5, 15, 5), 0);
    }

    private static void dead() {
        Edge.of("Promise 18", "Returns the rules of a name that never decide: that are not the deciding rule of the check of this name "
            + "for any address.");
        SendRules x = Edge.laid("na:+p0/8,+p255/8;nb:+a,+a,+a,+a,+a,+a,+a,+a;ac:1;nd:+ho,-p1/8,re;ne:-p2/8,-a;nf:-ia,~p255/8;");
        Edge.due("0 and 255 are addresses", x.dead(0, 0), 0);
        Edge.due("all but the first", x.dead(1, 0), 0b11111110);
        Edge.due("a name without rules", x.dead(2, 0), 0);
        Edge.due("another name's rule with the same index", x.dead(3, 0), 0b01);
        Edge.due("its own check, though others lead to it", x.dead(4, 0), 0);
        Edge.due("the included name's rule decides nothing here", x.dead(5, 0), 0b10);
        x = Edge.laid("na:+ip,-a;nb:+p1/8,-ho,-ho,-ho,-a;nc:+e%l,-a;ad:9;ne:+p0/1,-p64/2,~p128/1,?a;nf:+ha,rf;");
        Edge.due("the check ends with 5 before", x.dead(0, 0), 0b11);
        Edge.due("the check ends with 5 for all but one", x.dead(1, 0), 0b11110);
        Edge.due("letter d", x.dead(2, 3), 0b10);
        Edge.due("letter e", x.dead(2, 4), 0b01);
        Edge.due("covered by the rules before", x.dead(4, 0), 0b1010);
        Edge.due("a ring", x.dead(5, 15), 0b1);
        x = Edge.laid("na:+p128/1,+p64/2,+p32/3,+p16/4,+p8/5,+p4/6,+p2/7,+p0/7;nb:+ho,-p0/8;");
        Edge.due("each of eight decides", x.dead(0, 0), 0);
        Edge.due("one of two", x.dead(1, 0), 0b01);
        x.swap(1, 0);
        Edge.due("after a swap", x.dead(1, 0), 0b10);
        Edge.of("Promise 18", "BAD if an argument is out of range");
        for (int far : FAR) {
            Edge.due("dead(" + far + ", 0)", x.dead(far, 0), Edge.BAD);
            Edge.due("dead(0, " + far + ")", x.dead(0, far), Edge.BAD);
        }
        Edge.due("dead(2, 0)", x.dead(2, 0), Edge.BAD);
        Edge.due("dead(0, 16)", x.dead(0, 16), Edge.BAD);
    }

    /** The sums: a 255, b 0, c 2816, d 1, e 256 for the letter f and 512 for others, f 0. */
    private static SendRules sums() {
        return Edge.laid("na:+p0/8,+hf;nb:+a;nc:+ic;nd:+p128/1,+p64/2,+p32/3,+p16/4,+p8/5,+p4/6,+p2/7,+p1/8,rb;ne:+e%l,+hf;af:9;");
    }

    private static void lookupSum() {
        Edge.of("Promise 19", "Returns a value of the sum of the lookups in the checks of all 256 addresses.");
        Edge.due("a lookup for the address 0 alone", Edge.laid("na:+p128/1,+p64/2,+p32/3,+p16/4,+p8/5,+p4/6,+p2/7,+p1/8,rb;nb:+a;")
            .lookups(0, 0, 1, 0), 1);
        Edge.due("a lookup for the address 255 alone", Edge.laid("na:+p0/1,+p128/2,+p192/3,+p224/4,+p240/5,+p248/6,+p252/7,+p254/8,rb;"
            + "nb:+a;").lookups(0, 0, 1, 0), 1);
        Edge.due("ten lookups for each", Edge.laid("na:+ib,+ib,-a;nb:-hc,-hc,-hc,-hc;nc:+a;ac:1;").lookups(0, 0, 1, 0), 255 * 10 + 4);
        Edge.of("Promise 19", "0 for n times the sum");
        SendRules x = sums();
        int[] due = {255, 0, 2816, 1, 512, 0};
        for (int n = 0; n < due.length; n++) {
            Edge.due("1 times the sum of " + n, x.lookups(n, 0, 1, 0), due[n]);
            Edge.due("0 times the sum of " + n, x.lookups(n, 0, 0, 0), 0);
            Edge.due("1000 times the sum of " + n, x.lookups(n, 15, 1000, 0), 1000 * due[n]);
        }
        Edge.due("the sum of e with f", x.lookups(4, 5, 1, 0), 256);
        Edge.of("Promise 19", "FULL if n times the sum is greater than 2147483647");
        Edge.due("2147483647 times 1", x.lookups(3, 0, Edge.HIGH, 0), Edge.HIGH);
        Edge.due("2147483647 times 0", x.lookups(1, 0, Edge.HIGH, 0), 0);
        Edge.due("8421504 times 255", x.lookups(0, 0, 8421504, 0), 2147483520);
        Edge.due("8421505 times 255", x.lookups(0, 0, 8421505, 0), Edge.FULL);
        Edge.due("8388607 times 256", x.lookups(4, 5, 8388607, 0), 2147483392);
        Edge.due("8388608 times 256", x.lookups(4, 5, 8388608, 0), Edge.FULL);
        Edge.due("16777216 times 256, which is 0 in 32 bits", x.lookups(4, 5, 16777216, 0), Edge.FULL);
        Edge.due("16777217 times 256, which is 256 in 32 bits", x.lookups(4, 5, 16777217, 0), Edge.FULL);
        Edge.due("762600 times 2816", x.lookups(2, 0, 762600, 0), 2147481600);
        Edge.due("762601 times 2816", x.lookups(2, 0, 762601, 0), Edge.FULL);
        Edge.due("2147483647 times 2816", x.lookups(2, 0, Edge.HIGH, 0), Edge.FULL);
    }

    private static void lookupMean() {
        Edge.of("Promise 19", "1 for the sum divided by 256, as a float, with its bits as by Float.floatToIntBits()");
        SendRules x = sums();
        int[] sums = {255, 0, 2816, 1, 512, 0};
        for (int n = 0; n < sums.length; n++) {
            Edge.due("the mean of " + n, x.lookups(n, 0, 1, 1), Float.floatToIntBits(sums[n] / 256f));
        }
        Edge.due("0", x.lookups(1, 0, 1, 1), 0);
        Edge.due("1", x.lookups(4, 5, 1, 1), 0x3f800000);
        Edge.due("11", x.lookups(2, 0, 1, 1), 0x41300000);
        Edge.due("1/256", x.lookups(3, 0, 1, 1), 0x3b800000);
        for (int l = 0; l <= 8; l++) {
            SendRules y = Edge.laid("na:+p181/" + l + ",+ia;nb:-p9/" + l + ",-ho,-ho,-p77/4,+ho,+a;");
            int others = 256 - (1 << (8 - l));
            Edge.due("the mean of 11 lookups of all but " + l, y.lookups(0, 0, 1, 1), Float.floatToIntBits(11 * others / 256f));
            int b = y.lookups(1, 0, 1, 0);
            Edge.due("the mean of " + b, y.lookups(1, 0, 1, 1), Float.floatToIntBits(b / 256f));
        }
        Edge.of("Promise 19", "ignored if what is 1");
        for (int n : new int[] {0, 1, -1, Edge.LOW, Edge.HIGH}) {
            Edge.due("n is " + n, x.lookups(2, 0, n, 1), 0x41300000);
        }
    }

    private static void lookupRange() {
        Edge.of("Promise 19", "BAD if an argument is not as described");
        SendRules x = sums();
        for (int far : FAR) {
            for (int what = 0; what < 2; what++) {
                Edge.due("lookups(" + far + ", 0, 1, " + what + ")", x.lookups(far, 0, 1, what), Edge.BAD);
                Edge.due("lookups(0, " + far + ", 1, " + what + ")", x.lookups(0, far, 1, what), Edge.BAD);
            }
            Edge.due("lookups(0, 0, 1, " + far + ")", x.lookups(0, 0, 1, far), Edge.BAD);
        }
        Edge.due("lookups(6, 0, 1, 0)", x.lookups(6, 0, 1, 0), Edge.BAD);
        Edge.due("lookups(0, 16, 1, 0)", x.lookups(0, 16, 1, 0), Edge.BAD);
        Edge.due("lookups(0, 0, 1, 2)", x.lookups(0, 0, 1, 2), Edge.BAD);
        Edge.due("lookups(0, 0, -1, 2)", x.lookups(0, 0, -1, 2), Edge.BAD);
        Edge.of("Promise 19", "a factor, 0 or more");
        Edge.due("lookups(0, 0, 0, 0)", x.lookups(0, 0, 0, 0), 0);
        Edge.due("lookups(0, 0, -1, 0)", x.lookups(0, 0, -1, 0), Edge.BAD);
        Edge.due("lookups(1, 0, -1, 0), though the sum is 0", x.lookups(1, 0, -1, 0), Edge.BAD);
        Edge.due("lookups(0, 0, LOW, 0)", x.lookups(0, 0, Edge.LOW, 0), Edge.BAD);
    }

    private static void leads() {
        Edge.of("Promise 20", "Returns the names with a policy to which the policy of a name leads by includes and redirects, in one or "
            + "more steps");
        SendRules x = Edge.laid("na:+a,-ib,+ip,rg;nb:+hf,rc;nc:+a,+id;nd:-ie;ne:+mf,+ef,-hf;nf:+a,re;ag:1;xh:a;");
        int[] due = {0b11110, 0b11100, 0b11000, 0b10000, 0, 0b10000, 0, 0};
        for (int n = 0; n < due.length; n++) {
            Edge.due("leads(" + n + ")", x.leads(n), due[n]);
        }
        StringBuilder chain = new StringBuilder();
        for (char c = 'l'; c > 'a'; c--) {
            chain.append('n').append(c).append(c % 2 == 0 ? ":+i" : ":+a,r").append((char) (c - 1)).append(';');
        }
        x = Edge.laid(chain + "na:+a;");
        for (int n = 0; n < 12; n++) {
            Edge.due("leads(" + n + ") of a chain", x.leads(n), (1 << n) - 1);
        }
        x = Edge.laid("na:+ib,+ic,+id,+ie,+if,+ig,+ih,+ii,rj;nb:+a;nc:+a;nd:+a;ne:+a;nf:+a;ng:+a;nh:+a;ni:+a;nj:+a;nk:+a;");
        Edge.due("eight includes and a redirect", x.leads(0), 0b1111111110);
        Edge.of("Promise 20", "the name itself is among them only if it is reached so");
        x = Edge.laid("na:+ia;nb:+a,rb;nc:+id;nd:+p1/8,rc;ne:+ic;nf:+if,+ig;ng:+a;nh:-a;");
        int[] rings = {0b1, 0b10, 0b1100, 0b1100, 0b1100, 0b1100000, 0, 0};
        for (int n = 0; n < rings.length; n++) {
            Edge.due("leads(" + n + ")", x.leads(n), rings[n]);
        }
        x = Edge.laid(chain + "na:+il;");
        for (int n = 0; n < 12; n++) {
            Edge.due("leads(" + n + ") of a ring", x.leads(n), 0b111111111111);
        }
        Edge.of("Promise 20", "BAD if there is no such name");
        for (int far : FAR) {
            Edge.due("leads(" + far + ")", x.leads(far), Edge.BAD);
        }
        Edge.due("leads(12)", x.leads(12), Edge.BAD);
        Edge.due("leads(5) of five names", new SendRules().leads(5), Edge.BAD);
    }

    private static void counts(String what, SendRules x, int... due) {
        for (int k = 0; k < due.length; k++) {
            Edge.due("count(" + k + ") of " + what, x.count(k), due[k]);
        }
    }

    private static void count() {
        Edge.of("Promise 21", "0 known names, 1 names with a policy, 2 rules, 3 hosts, 4 kept checks, 5 changes that can be undone, "
            + "6 characters of the text");
        counts("a new object", new SendRules(), 5, 3, 8, 4, 0, 0, 0);
        counts("the smallest records", Edge.laid("na:+a;"), 1, 1, 1, 0, 0, 0, 6);
        String eight = ":+a,+a,+a,+a,+a,+a,+a,+a;";
        SendRules x = Edge.laid("na" + eight + "nb" + eight + "nc" + eight + "nd" + eight + "ne" + eight + "nf" + eight + "ng" + eight
            + "nh" + eight + "ni:+a,+a,+a,+a,+a,+a,+a;");
        counts("many rules", x, 9, 9, 71, 0, 0, 0, 240);
        StringBuilder hosts = new StringBuilder("na:+a,ra;xa:b,c,d;");
        for (char c = 'a'; c <= 'l'; c++) {
            hosts.append('a').append(c).append(":1,1,2,2;");
        }
        x = Edge.laid(hosts.toString());
        counts("many hosts", x, 12, 1, 1, 48, 0, 0, 18 + 12 * 11);
        for (int k = 0; k < 6; k++) {
            x.host(k, 1, 0);
        }
        for (int k = 0; k < 6; k++) {
            x.check(k, 0, 0);
        }
        x.wipe();
        counts("many hosts after changes", x, 12, 1, 1, 42, 4, 4, 0);
        Edge.of("Promise 21", "BAD if what is out of range");
        for (int far : FAR) {
            Edge.due("count(" + far + ")", x.count(far), Edge.BAD);
        }
        Edge.due("count(7)", x.count(7), Edge.BAD);
    }

    public static void main(String[] args) {
        checkIsKept();
        checkRange();
        keptValues();
        keptIndex();
        keptRange();
        nameProperties();
        letters();
        rules();
        hostsOf();
        many();
        dead();
        lookupSum();
        lookupMean();
        lookupRange();
        leads();
        count();
        Edge.end("AnswersEdges");
    }
}
