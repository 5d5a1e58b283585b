/** The boundary cases that CHANGES and the promises about changes, 9 to 12, name, a test for each sentence. */
public final class ChangesEdges {
    private static String addresses(SendRules x) {
        StringBuilder b = new StringBuilder();
        for (int k = 0; k < 8; k++) {
            b.append(x.rule(0, k, 2));
        }
        return b.toString();
    }

    private static void latestFour() {
        Edge.of("CHANGES", "The changes are made by sign(), swap() and host(); the latest 4 can be undone.");
        for (int made = 0; made <= 7; made++) {
            SendRules x = Edge.laid("na:+p1/8,-p2/8,~p3/8,?p4/8,+p5/8,-p6/8,~p7/8,?p8/8;");
            String[] states = new String[made + 1];
            states[0] = addresses(x);
            for (int k = 0; k < made; k++) {
                x.swap(0, k);
                states[k + 1] = addresses(x);
            }
            int most = Math.min(4, made);
            Edge.due("count(5) after " + made, x.count(5), most);
            for (int k = 1; k <= most; k++) {
                Edge.due("undo " + k + " of " + made, x.undo(), most - k);
                Edge.due("the rules after undo " + k + " of " + made, addresses(x), states[made - k]);
            }
            Edge.due("one undo more after " + made, x.undo(), Edge.NO);
            Edge.due("the rules after it", addresses(x), states[made - most]);
        }
    }

    private static void eachIsAChange() {
        Edge.of("CHANGES", "The changes are made by sign(), swap() and host()");
        SendRules x = new SendRules();
        x.write('a');
        x.named(0);
        x.fault();
        x.check(0, 0, 0);
        x.many(0, 0, 0);
        x.wipe();
        Edge.due("other calls are no changes", x.count(5), 0);
        x.sign(0, 0, 1);
        Edge.due("sign", x.count(5), 1);
        x.swap(0, 0);
        Edge.due("swap", x.count(5), 2);
        x.host(0, 1, 1);
        Edge.due("host, added", x.count(5), 3);
        x.host(4, 7, 0);
        Edge.due("host, removed", x.count(5), 4);
        Edge.due("undo all", x.undo() * 1000 + x.undo() * 100 + x.undo() * 10 + x.undo(), 3210);
        Edge.due("the records", Edge.records(x), Edge.records(new SendRules()));
        x.sign(0, 0, 1);
        x.undo();
        Edge.due("undo is no change", x.undo(), Edge.NO);
    }

    private static void mixed() {
        Edge.of("CHANGES", "the latest 4 can be undone");
        SendRules x = new SendRules();
        for (int k = 0; k < 4; k++) {
            x.sign(0, k, 3);
        }
        x.host(0, 1, 1);
        Edge.due("undo the fifth one", x.undo(), 3);
        Edge.due("the fifth one", Edge.hosts(x, 0), "9");
        x.host(0, 2, 1);
        Edge.due("another one after an undo", x.count(5), 4);
        x.host(0, 3, 1);
        Edge.due("one more", x.count(5), 4);
        Edge.due("undo", x.undo(), 3);
        Edge.due("the hosts", Edge.hosts(x, 0), "9,2");
        Edge.due("undo", x.undo(), 2);
        Edge.due("the hosts", Edge.hosts(x, 0), "9");
        Edge.due("undo", x.undo(), 1);
        Edge.due("undo", x.undo(), 0);
        Edge.due("the first two signs can't be undone any more", Edge.rules(x, 0), "?p128/2,?i3,~h4,-a");
        Edge.due("undo", x.undo(), Edge.NO);
    }

    private static void signSets() {
        Edge.of("Promise 9", "Sets the sign of a rule. This is a change.");
        SendRules x = Edge.laid("na:+a;nb:+p1/8,+p2/8,+p3/8,+p4/8,+p5/8,+p6/8,+p7/8,+p8/8;");
        int[] results = {2, 3, 4, 1};
        for (int sign : new int[] {3, 0, 2, 1}) {
            x.sign(0, 0, sign);
            Edge.due("the sign", x.rule(0, 0, 0), sign);
            Edge.due("the result", x.check(0, 0, 0), results[sign]);
        }
        Edge.due("changes", x.count(5), 4);
        x.sign(1, 7, 1);
        x.sign(1, 0, 2);
        Edge.due("the first and the last rule alone", Edge.rules(x, 1), "~p1/8,+p2/8,+p3/8,+p4/8,+p5/8,+p6/8,+p7/8,-p8/8");
        Edge.due("the kept checks", x.count(4), 0);
        Edge.of("Promise 9", "Returns the previous sign");
        x = Edge.laid("na:+a,-a,~a,?a;");
        for (int before = 0; before < 4; before++) {
            Edge.due("the sign before", x.sign(0, before, (before + 1) % 4), before);
            Edge.due("the sign between", x.sign(0, before, (before + 2) % 4), (before + 1) % 4);
        }
    }

    private static void signRefused() {
        Edge.of("Promise 9", "BAD if an argument is not as described");
        SendRules x = new SendRules();
        int[][] calls = {{-1, 0, 1}, {5, 0, 1}, {Edge.LOW, 0, 1}, {Edge.HIGH, 0, 1}, {0, -1, 0}, {0, 4, 0}, {0, 8, 0},
            {0, Edge.LOW, 0}, {0, Edge.HIGH, 0}, {3, 2, 1}, {1, 0, 1}, {4, 0, 0}, {0, 0, -1}, {0, 0, 4}, {0, 0, Edge.LOW},
            {0, 0, Edge.HIGH}, {0, 0, '+'}};
        for (int[] a : calls) {
            Edge.due("sign(" + a[0] + ", " + a[1] + ", " + a[2] + ")", x.sign(a[0], a[1], a[2]), Edge.BAD);
        }
        Edge.due("changes", x.count(5), 0);
        Edge.due("the last name with a policy and its last rule", x.sign(3, 1, 3), 0);
        Edge.of("Promise 9", "NO if the sign is the same");
        x = Edge.laid("na:+a,-a,~a,?a;");
        for (int sign = 0; sign < 4; sign++) {
            Edge.due("the same sign " + sign, x.sign(0, sign, sign), Edge.NO);
        }
        Edge.due("changes", x.count(5), 0);
        x.sign(0, 0, 3);
        Edge.due("the new sign is the same then", x.sign(0, 0, 3), Edge.NO);
        Edge.due("the former sign isn't", x.sign(0, 0, 0), 3);
    }

    private static void swapExchanges() {
        Edge.of("Promise 10", "Exchanges a rule and the next one. This is a change.");
        SendRules x = Edge.laid("na:+p1/1,-ib,~ea,?a,+hb,-mb,~p6/7,?p7/8,rb;nb:+a,-a;aa:1;");
        x.swap(0, 0);
        Edge.due("the first two", Edge.rules(x, 0), "-i1,+p1/1,~e,?a,+h1,-m1,~p6/7,?p7/8");
        x.swap(0, 6);
        Edge.due("the last two", Edge.rules(x, 0), "-i1,+p1/1,~e,?a,+h1,-m1,?p7/8,~p6/7");
        x.swap(0, 1);
        Edge.due("two in the middle", Edge.rules(x, 0), "-i1,~e,+p1/1,?a,+h1,-m1,?p7/8,~p6/7");
        Edge.due("the redirect stays", x.name(0, 4), 1);
        Edge.due("changes", x.count(5), 3);
        Edge.due("the first one decides before", x.check(1, 0, 0), 2);
        x.swap(1, 0);
        Edge.due("kept checks", x.count(4), 0);
        Edge.due("the other one decides then", x.check(1, 0, 0), 3);
        Edge.due("a macro moves with its rule", x.sign(0, 0, 3) * 10 + x.check(0, 200, 0), 14);
        x = Edge.laid("na:+a,+a;");
        x.swap(0, 0);
        Edge.due("rules that are the same", x.count(5), 1);
    }

    private static void swapAnswers() {
        Edge.of("Promise 10", "Returns the number of rules of the policy");
        SendRules x = Edge.laid("na:+a,-a;nb:+a,+a,+a,+a,+a,+a,+a,+a,ra;nc:+a;ad:1;");
        Edge.due("two rules", x.swap(0, 0), 2);
        Edge.due("eight rules and a redirect", x.swap(1, 6), 8);
        Edge.of("Promise 10", "BAD if an argument is not as described");
        int[][] calls = {{-1, 0}, {4, 0}, {Edge.LOW, 0}, {Edge.HIGH, 0}, {0, -1}, {0, 2}, {1, 8}, {2, 1}, {3, 0}, {0, Edge.LOW},
            {0, Edge.HIGH}, {Edge.HIGH, Edge.HIGH}};
        for (int[] a : calls) {
            Edge.due("swap(" + a[0] + ", " + a[1] + ")", x.swap(a[0], a[1]), Edge.BAD);
        }
        Edge.due("changes", x.count(5), 2);
        Edge.of("Promise 10", "NO if it is the last rule");
        Edge.due("the last of two", x.swap(0, 1), Edge.NO);
        Edge.due("the last of eight", x.swap(1, 7), Edge.NO);
        Edge.due("the only one", x.swap(2, 0), Edge.NO);
        Edge.due("changes", x.count(5), 2);
    }

    private static void hostMoves() {
        Edge.of("Promise 11", "Adds a host at the end, or removes one (the first one with this address). This is a change.");
        SendRules x = Edge.laid("na:+hb;ab:7,8,7;");
        x.host(1, 0, 1);
        Edge.due("added", Edge.hosts(x, 1), "7,8,7,0");
        x.host(1, 7, 0);
        Edge.due("the first 7 removed", Edge.hosts(x, 1), "8,7,0");
        x.host(1, 255, 1);
        Edge.due("added", Edge.hosts(x, 1), "8,7,0,255");
        x.host(1, 255, 0);
        Edge.due("the last one removed", Edge.hosts(x, 1), "8,7,0");
        Edge.due("changes", x.count(5), 4);
        x.host(1, 7, 0);
        Edge.due("the other 7 removed", Edge.hosts(x, 1), "8,0");
        x.host(0, 3, 1);
        Edge.due("a name without hosts", Edge.hosts(x, 0), "3");
        x.host(0, 3, 0);
        Edge.due("its only host", Edge.hosts(x, 0), "");
        Edge.due("removed and added again", x.host(1, 8, 0) * 10 + x.host(1, 8, 1), 12);
        Edge.due("at the end", Edge.hosts(x, 1), "0,8");
        Edge.due("a check", x.check(0, 8, 0) * 10 + x.check(0, 7, 0), 21);
        x = Edge.laid("na:+hb;ab:7,7,7,7;");
        Edge.due("the same four times", x.host(1, 7, 0) * 1000 + x.host(1, 7, 0) * 100 + x.host(1, 7, 0) * 10 + x.host(1, 7, 0), 3210);
    }

    private static void hostAnswers() {
        Edge.of("Promise 11", "Returns the number of hosts of the name then");
        SendRules x = Edge.laid("na:+a;ab:9;");
        for (int k = 1; k <= 4; k++) {
            Edge.due("added", x.host(0, k * 50, 1), k);
        }
        for (int k = 4; k >= 1; k--) {
            Edge.due("removed", x.host(0, k * 50, 0), k - 1);
        }
        Edge.of("Promise 11", "BAD if an argument is not as described");
        int[][] calls = {{-1, 0, 1}, {2, 0, 1}, {Edge.LOW, 0, 1}, {Edge.HIGH, 0, 0}, {0, -1, 1}, {0, 256, 1}, {1, 256 + 9, 0},
            {0, Edge.LOW, 1}, {0, Edge.HIGH, 0}, {0, 0, -1}, {0, 0, 2}, {1, 9, -1}, {1, 9, 2}, {0, 0, Edge.LOW}, {0, 0, Edge.HIGH}};
        for (int[] a : calls) {
            Edge.due("host(" + a[0] + ", " + a[1] + ", " + a[2] + ")", x.host(a[0], a[1], a[2]), Edge.BAD);
        }
        Edge.due("the first address", x.host(0, 0, 1), 1);
        Edge.due("the last address", x.host(0, 255, 1), 2);
        Edge.due("hosts", Edge.hosts(x, 0) + ";" + Edge.hosts(x, 1), "0,255;9");
    }

    private static void hostRefused() {
        Edge.of("Promise 11", "NO if the address is a host already, or is none");
        SendRules x = Edge.laid("na:+a;ab:0,255;xc:b;");
        Edge.due("0 is a host already", x.host(1, 0, 1), Edge.NO);
        Edge.due("255 is a host already", x.host(1, 255, 1), Edge.NO);
        Edge.due("1 is none", x.host(1, 1, 0), Edge.NO);
        Edge.due("0 is none of another name's", x.host(0, 0, 0), Edge.NO);
        Edge.due("none of a name without hosts", x.host(2, 255, 0), Edge.NO);
        x.host(1, 0, 0);
        Edge.due("0 isn't one any more", x.host(1, 0, 0), Edge.NO);
        Edge.due("changes", x.count(5), 1);
        Edge.of("Promise 11", "FULL if there are 4 hosts already");
        x = Edge.laid("na:+a;ab:1,2,3;ac:7,7,7,7;");
        Edge.due("a fourth one", x.host(1, 4, 1), 4);
        Edge.due("a fifth one", x.host(1, 5, 1), Edge.FULL);
        Edge.due("a fifth one, 0", x.host(1, 0, 1), Edge.FULL);
        Edge.due("a fifth one that is a host already", x.host(1, 4, 1), Edge.NO);
        Edge.due("a fifth one where four are the same", x.host(2, 8, 1), Edge.FULL);
        Edge.due("remove one", x.host(1, 1, 0), 3);
        Edge.due("then another one", x.host(1, 5, 1), 4);
    }

    private static void undoOfEach() {
        Edge.of("Promise 12", "Undoes the latest change.");
        SendRules x = Edge.laid("na:+a,-p1/8,~ib,ra;ab:7,8,7,9;");
        String first = Edge.records(x);
        int[][] changes = {{0, 0, 3}, {0, 2, 0}, {1, 0}, {1, 1}, {2, 7, 0}, {2, 8, 0}, {2, 9, 0}};
        for (int[] c : changes) {
            int done = c[0] == 0 ? x.sign(0, c[1], c[2]) : c[0] == 1 ? x.swap(0, c[1]) : x.host(1, c[1], c[2]);
            Edge.due("a change", Math.min(done, 0), 0);
            Edge.due("undo it", x.undo(), 0);
            Edge.due("the records", Edge.records(x), first);
        }
        x = Edge.laid("na:+a,-a;ab:7,8,7;ac:1;");
        x.host(1, 7, 0);
        x.host(1, 7, 0);
        x.host(1, 7, 1);
        x.host(2, 1, 0);
        Edge.due("hosts", Edge.hosts(x, 1) + ";" + Edge.hosts(x, 2), "8,7;");
        x.undo();
        Edge.due("the only host is there again", Edge.hosts(x, 1) + ";" + Edge.hosts(x, 2), "8,7;1");
        x.undo();
        Edge.due("the added one is gone", Edge.hosts(x, 1), "8");
        x.undo();
        Edge.due("the removed one is at its place", Edge.hosts(x, 1), "8,7");
        x.undo();
        Edge.due("the first one too", Edge.hosts(x, 1), "7,8,7");
        x = Edge.laid("na:+a;ab:5,6,7;");
        x.host(1, 8, 1);
        x.host(1, 5, 0);
        x.undo();
        Edge.due("the fourth one's place", Edge.hosts(x, 1), "5,6,7,8");
        x.undo();
        Edge.due("the one that was added last", Edge.hosts(x, 1), "5,6,7");
    }

    private static void undoAfterOthers() {
        Edge.of("Promise 12", "Undoes the latest change.");
        SendRules x = new SendRules();
        x.sign(0, 0, 2);
        x.swap(0, 0);
        Edge.due("rules", Edge.rules(x, 0), "+i3,~p128/2,~h4,-a");
        x.sign(0, 0, 1);
        x.swap(0, 0);
        Edge.due("rules", Edge.rules(x, 0), "~p128/2,-i3,~h4,-a");
        x.undo();
        Edge.due("a swap back", Edge.rules(x, 0), "-i3,~p128/2,~h4,-a");
        x.undo();
        Edge.due("a sign back at its place then", Edge.rules(x, 0), "+i3,~p128/2,~h4,-a");
        x.undo();
        x.undo();
        Edge.due("all", Edge.rules(x, 0), "+p128/2,+i3,~h4,-a");
        x.sign(3, 0, 0);
        Edge.type(x, "eb");
        x.check(0, 0, 0);
        x.fault();
        x.lay();
        Edge.due("calls between", x.undo(), 0);
        Edge.due("the sign", x.rule(3, 0, 0), 3);
    }

    private static void undoAnswers() {
        Edge.of("Promise 12", "Returns how many changes can still be undone; NO if there is none.");
        SendRules x = new SendRules();
        Edge.due("none on a new object", x.undo(), Edge.NO);
        for (int k = 0; k < 4; k++) {
            x.sign(0, k, 3);
        }
        for (int k = 3; k >= 0; k--) {
            Edge.due("undo", x.undo(), k);
            Edge.due("count(5)", x.count(5), k);
        }
        Edge.due("none then", x.undo(), Edge.NO);
        x.sign(0, 0, 0);
        Edge.due("a refused change can't be undone", x.undo(), Edge.NO);
        x.sign(0, 0, 1);
        x.sign(0, 0, 0);
        Edge.due("a change back is a change too", x.undo(), 1);
        Edge.due("the sign", x.rule(0, 0, 0), 1);
        Edge.due("undo", x.undo(), 0);
        x.sign(0, 0, 1);
        Edge.type(x, "na:+a;");
        x.lay();
        Edge.due("none after lay", x.undo(), Edge.NO);
    }

    public static void main(String[] args) {
        latestFour();
        eachIsAChange();
        mixed();
        signSets();
        signRefused();
        swapExchanges();
        swapAnswers();
        hostMoves();
        hostAnswers();
        hostRefused();
        undoOfEach();
        undoAfterOthers();
        undoAnswers();
        Edge.end("ChangesEdges");
    }
}
