/** The boundary cases that the part RECORDS names, a test for each sentence. */
public final class RecordsEdges {
    private static final String PART = "RECORDS";

    private static String[] put(String form, String... values) {
        String[] texts = new String[values.length];
        for (int k = 0; k < values.length; k++) {
            texts[k] = form.replace("@", values[k]);
        }
        return texts;
    }

    private static String times(int n, String piece) {
        return (piece + ",").repeat(n).replaceFirst(",$", "");
    }

    private static void names() {
        Edge.of(PART, "A name consists of 1 to 7 letters from a to p.");
        for (String form : new String[] {"n@:+a;", "a@:1;", "x@:b;", "xb:@;", "xb:c,d,@;", "xb:@,c;", "nb:+i@;", "nb:-h@;",
            "nb:~m@;", "nb:?i@,-a;", "nb:+a,r@;"}) {
            Edge.good(put(form, "a", "p", "n", "h", "abcdefg", "hijklmn", "opopopo", "ppppppp", "aaaaaaa"));
            Edge.bad(put(form, "", "abcdefgh", "aaaaaaaaa", "q", "r", "x", "`", "A", "P", "aq", "qa", "a`", "`a", "abcdefq", "a.b", "a b", " a", "a ",
                "1", "a1", "%d", "-"));
        }
        SendRules x = Edge.laid("nabcdefg:+a;ahijklmn:1;xop:a;");
        for (String name : new String[] {"abcdefg", "hijklmn", "op"}) {
            int number = Edge.number(x, name);
            Edge.due("letters of " + name, x.name(number, 0), name.length());
            for (int k = 0; k < name.length(); k++) {
                Edge.due("letter " + k + " of " + name, x.letter(number, k), name.charAt(k) - 'a');
            }
        }
    }

    private static void addresses() {
        Edge.of(PART, "An address is a number from 0 to 255, with 8 bits.");
        for (String form : new String[] {"na:+p@/4;", "na:-a,?p@/0,-a;", "aa:@;", "aa:@,1;", "aa:1,2,3,@;"}) {
            Edge.good(put(form, "0", "1", "9", "10", "99", "100", "127", "128", "199", "249", "250", "255"));
            Edge.bad(put(form, "256", "257", "259", "260", "300", "511", "512", "999", "1000", "-1", "-0", "+1", "1.5", "0x1",
                "a", " 1", "1 ", ""));
        }
        SendRules x = Edge.laid("na:+p0/0,+p255/8,+p128/1;aa:0,255,127,128;");
        Edge.due("the addresses of the rules", Edge.rules(x, 0), "+p0/0,+p255/8,+p128/1");
        Edge.due("the hosts", Edge.hosts(x, 0), "0,255,127,128");
        x = Edge.laid("na:+p255/8;nb:+p0/8;nc:+hd;ad:0,255;");
        Edge.due("255 is one address", x.many(0, 0, 2), 1);
        Edge.due("255", x.check(0, 255, 0), 2);
        Edge.due("0 is one address", x.many(1, 0, 2), 1);
        Edge.due("0", x.check(1, 0, 0), 2);
        Edge.due("0 and 255 as hosts", x.check(2, 0, 0) + x.check(2, 255, 0) + x.many(2, 0, 2), 6);
    }

    private static void sizes() {
        Edge.of(PART, "A name can have a policy, which consists of 1 to 8 rules in a fixed order and possibly a redirect to a name; "
            + "1 to 4 hosts, which are addresses; and 1 to 3 exchangers, which are names.");
        SendRules x = Edge.laid("na:+p1/1,-p2/2,~p3/3,?p4/4,+p5/5,-p6/6,~p7/7,?p8/8,rb;aa:4,3,2,1;xa:d,c,b;ab:1;xc:a;nd:-a;");
        Edge.due("all at once", Edge.records(x),
            "a +p1/1,-p2/2,~p3/3,?p4/4,+p5/5,-p6/6,~p7/7,?p8/8 r1 p1 a4,3,2,1 x3; b  r-4 p0 a1 x0; c  r-4 p0 a x1; "
            + "d -a r-4 p1 a x0; ");
        for (int n = 1; n <= 8; n++) {
            SendRules y = Edge.laid("na:" + times(n, "-a") + ";");
            Edge.due(n + " rules", y.name(0, 1), n);
            y = Edge.laid("na:" + times(n, "-a") + ",ra;");
            Edge.due(n + " rules and a redirect", y.name(0, 1) * 10 + y.name(0, 4), n * 10);
        }
        for (int n = 1; n <= 4; n++) {
            Edge.due(n + " hosts", Edge.laid("na:+a;aa:" + times(n, "7") + ";").name(0, 2), n);
        }
        for (int n = 1; n <= 3; n++) {
            Edge.due(n + " exchangers", Edge.laid("na:+a;xa:" + times(n, "b") + ";").name(0, 3), n);
        }
    }

    private static void textLength() {
        Edge.of(PART, "The records are read from a text of at most 240 characters");
        SendRules x = Edge.typed("na:+a;" + "ab:11;".repeat(38) + "ab:77;");
        Edge.due("characters", x.count(6), 240);
        Edge.due("fault of 240 characters", x.fault(), Edge.NONE);
        Edge.due("lay of 240 characters", x.lay(), 2);
        Edge.due("the item at the end", Edge.hosts(x, 1), "77");
        x = Edge.typed("na:+a;" + "ab:11;".repeat(38) + "ab:777;");
        Edge.due("characters, the 241st isn't taken", x.count(6), 240);
        Edge.due("the item without its end", x.fault(), 234);
        x = Edge.typed("aa:1;".repeat(47) + "xa:b;");
        Edge.due("fault of 48 items", x.fault(), Edge.NONE);
        x = Edge.typed("na:+a;".repeat(40));
        Edge.due("fault of 40 policies", x.fault(), Edge.NONE);
        Edge.due("lay of 40 policies of one name", x.lay(), 1);
        Edge.due("the last one of them", x.count(2), 1);
    }

    private static void items() {
        Edge.of(PART, "which is a sequence of items, each with a semicolon at the end");
        Edge.due("no item", new SendRules().fault(), Edge.NONE);
        Edge.good("na:+a;", "na:+a;ab:1;xc:a;", "xc:a;ab:1;na:+a;", "na:+a;na:+a;");
        Edge.bad("na:+a", "ab:1", "xc:a", "na:+a,rb", ";", ";na:+a;", "na:+a.", "na:+aab:1;", "na:+a,ab:1;", "ab:1na:+a;",
            "xc:anb:+a;", "na:+a:;", "na:+a,;", " ;");
        Edge.due("a second semicolon", Edge.typed("na:+a;;").fault(), 6);
        Edge.due("a blank at the end", Edge.typed("na:+a; ").fault(), 6);
        Edge.due("a blank between items", Edge.typed("na:+a; ab:1;").fault(), 6);
        Edge.due("no semicolon at the end", Edge.typed("na:+a;ab:1").fault(), 6);
        Edge.due("a sort alone at the end", Edge.typed("na:+a;ab:1;n").fault(), 11);
    }

    /** Items of the given length in all, which is at least 10. */
    private static String filler(int length) {
        return "xa:b;".repeat(length / 5 - 1) + "x" + "a".repeat(1 + length % 5) + ":b;";
    }

    private static void cutItems() {
        Edge.of(PART, "each with a semicolon at the end");
        String[] items = {"nabcdefg:+a,-p255/8,~iabcdefg,?hb,+mb,-eab%d,~e%-7o%1s%l,rabcdefg;", "aabcdefg:0,25,255,007;",
            "xabcdefg:b,abcdefg,c;"};
        for (String item : items) {
            for (int cut = 1; cut < item.length(); cut++) {
                String start = item.substring(0, cut);
                Edge.due("fault of " + start, Edge.typed(start).fault(), 0);
                SendRules x = Edge.typed(filler(240 - cut) + start);
                Edge.due("the length with " + start, x.count(6), 240);
                Edge.due("fault of " + start + " as the end of 240 characters", x.fault(), 240 - cut);
                x = Edge.typed(item);
                Edge.type(x, start);
                Edge.due("fault of " + start + " after the whole item", x.fault(), 0);
            }
            Edge.due("fault of the whole item", Edge.typed(filler(240 - item.length()) + item).fault(), Edge.NONE);
        }
    }

    private static void sorts() {
        Edge.of(PART, "nNAME:R,R,...");
        Edge.good("nn:+a;", "na:+a;", "np:+a;");
        Edge.bad("Na:+a;", "a:+a;", "n:+a;", "na+a;", "na::+a;", "na;+a;", "na,+a;", "na :+a;", "na: +a;", "ra:+a;", "ba:+a;",
            "na", "na:", "n", ":+a;", "na:1;", "na:b;", "aa:+a;", "xa:+a;", "+a;");
        Edge.of(PART, "aNAME:A,A,...");
        Edge.good("aa:1;", "an:1;");
        Edge.bad("Aa:1;", "a:1;", "aa1;", "aa::1;", "aa;1;", "aa", "aa:", "a", "aa:b;", "aa:1/8;", "aa:p1/8;", "pa:1;", "ha:1;");
        Edge.of(PART, "xNAME:NAME,...");
        Edge.good("xa:b;", "xa:a;", "xp:a;");
        Edge.bad("Xa:b;", "x:b;", "xab;", "xa::b;", "xa;b;", "xa", "xa:", "x", "xa:1;", "xa:+b;", "ma:b;");
        Edge.due("a second list", Edge.typed("xa:b;b;").fault(), 5);
    }

    private static void policySize() {
        Edge.of(PART, "the policy of a name: 1 to 8 rules, separated by commas");
        for (String rule : new String[] {"+a", "-p1/2", "~ib", "?hb", "+mb", "-eb", "~e%d"}) {
            for (int n = 1; n <= 8; n++) {
                Edge.good("na:" + times(n, rule) + ";");
            }
            Edge.bad("na:" + times(9, rule) + ";", "na:" + times(10, rule) + ";", "na:" + times(9, rule) + ",rb;");
            Edge.bad("na:," + rule + ";", "na:" + rule + ",;", "na:" + rule + ",," + rule + ";",
                "na:" + rule + rule.charAt(0) + "a;", "na:" + rule + " ," + rule + ";", "na:" + rule + "." + rule + ";");
        }
        Edge.bad("na:;", "na:,;", "na:" + times(8, "+a") + ",;");
    }

    private static void redirect() {
        Edge.of(PART, "at the end, after at least one rule and a comma, there can be r and a name for the redirect");
        Edge.good("na:+a,rb;", "na:+a,ra;", "na:" + times(8, "+a") + ",rb;", "na:+ib,rb;", "na:+eb,rb;", "na:+p1/8,rp;");
        Edge.bad("na:rb;", "na:,rb;", "na:+arb;", "na:+a,r;", "na:+a,r,;", "na:+a,rb,;", "na:+a,rb,+a;", "na:+a,rb,rb;",
            "na:+a,rb,rc;", "na:rb,+a;", "na:+a,+rb;", "na:+a, rb;", "na:+a,Rb;", "na:+a,,rb;", "na:+a,rbrb;",
            "na:" + times(8, "+a") + ",rb,+a;", "na:+ibrb;", "na:+p1/8rb;", "na:+a,r b;", "aa:1,rb;", "xa:b,rb;");
        SendRules x = Edge.laid("na:+a,rb;nb:-a,ra;nc:" + times(8, "+a") + ",rc;nd:+a;ne:+a,rp;");
        int[] due = {1, 0, 2, Edge.NONE, Edge.NONE};
        for (int k = 0; k < due.length; k++) {
            Edge.due("the redirect of name " + k, x.name(k, 4), due[k]);
        }
        Edge.due("a redirect is no rule", x.count(2), 1 + 1 + 8 + 1 + 1);
    }

    private static void hosts() {
        Edge.of(PART, "the hosts of a name, 1 to 4 addresses, which need not be different");
        for (int n = 1; n <= 4; n++) {
            Edge.good("aa:" + times(n, "7") + ";", "aa:" + times(n, "255") + ";");
        }
        Edge.bad("aa:;", "aa:,;", "aa:1,;", "aa:,1;", "aa:1,,2;", "aa:1,2,3,4,;", "aa:1,2,3,4,5;", "aa:7,7,7,7,7;", "aa:1 2;");
        SendRules x = Edge.laid("na:+ha;aa:7,7,7,7;ab:1,2,1,2;");
        Edge.due("four times the same", Edge.hosts(x, 0), "7,7,7,7");
        Edge.due("twice the same", Edge.hosts(x, 1), "1,2,1,2");
        Edge.due("each of them counts", x.count(3), 8);
    }

    private static void exchangers() {
        Edge.of(PART, "the exchangers of a name, 1 to 3 names");
        for (int n = 1; n <= 3; n++) {
            Edge.good("xa:" + times(n, "b") + ";", "xa:" + times(n, "abcdefg") + ";");
        }
        Edge.bad("xa:;", "xa:,;", "xa:b,;", "xa:,b;", "xa:b,,c;", "xa:b,c,d,;", "xa:b,c,d,e;", "xa:b,b,b,b;", "xa:b c;");
        SendRules x = Edge.laid("na:+mb,-a;xb:c,d,e;ac:1;ad:2;ae:3;xf:e,e,e;xg:g;");
        Edge.due("three exchangers", x.name(1, 3), 3);
        Edge.due("three times the same", x.name(5, 3), 3);
        Edge.due("one", x.name(6, 3), 1);
        Edge.due("the first, second and third", x.check(0, 1, 0) * 100 + x.check(0, 2, 0) * 10 + x.check(0, 3, 0), 222);
    }

    private static void numbers() {
        Edge.of(PART, "Numbers have one to three digits.");
        Edge.good("aa:7;", "aa:77;", "aa:177;", "aa:007;", "aa:000;", "aa:07,00,010;", "na:+p7/8;", "na:+p07/08;", "na:+p007/008;",
            "na:+p000/000;", "na:+p255/00;");
        Edge.bad("aa:;", "aa:0007;", "aa:0000;", "aa:1777;", "aa:1,0007;", "na:+p/8;", "na:+p7/;", "na:+p0007/8;", "na:+p7/0008;",
            "na:+p7/0000;", "na:+p/;", "na:+p00000000007/8;");
        SendRules x = Edge.laid("na:+p010/08,-p099/003,~p7/8;aa:010,08,000,1;");
        Edge.due("the numbers of the rules", Edge.rules(x, 0), "+p10/8,-p99/3,~p7/8");
        Edge.due("the numbers of the hosts", Edge.hosts(x, 0), "10,8,0,1");
    }

    private static void severalItems() {
        Edge.of(PART, "If there are several items of the same sort for a name, the last one counts.");
        SendRules x = Edge.laid("na:+p1/1,-ib,~eaaaaaaaa,?a,+a,+a,+a,+a,rb;aa:1,2,3,4;xa:a,b,c;na:-a;aa:9;xa:b;");
        Edge.due("the shorter ones are the last", Edge.records(x), "a -a r-4 p1 a9 x1; ");
        Edge.due("the check is by the last policy", x.check(0, 0, 0), 3);
        x = Edge.laid("na:-a;aa:9;xa:b;na:+p1/1,~a,ra;aa:1,2,3,4;xa:a,b,c;");
        Edge.due("the longer ones are the last", Edge.records(x), "a +p1/1,~a r0 p1 a1,2,3,4 x3; ");
        x = Edge.laid("na:-p1/8,rb;nb:+a;na:-p1/8;");
        Edge.due("an earlier redirect isn't one", x.name(0, 4), Edge.NONE);
        Edge.due("an earlier redirect doesn't lead", x.leads(0) * 10 + x.check(0, 2, 0), 1);
        x = Edge.laid("na:+a;nb:+a,+a;na:-a;nb:-a,-a;na:~a;aa:1;na:?a;");
        Edge.due("four of one sort, others between", Edge.records(x), "a ?a r-4 p1 a1 x0; b -a,-a r-4 p1 a x0; ");
        x = Edge.laid("na:+p1/8,+eb;na:+eb,-a;ab:1;");
        Edge.due("no part of an earlier macro is left", x.check(0, 2, 0), 2);
        x = Edge.laid("na:+eabcdefgh,-a;na:+eb,-a;ab:1;");
        Edge.due("no part of a longer macro is left", x.check(0, 2, 0), 2);
        x = Edge.laid("na:+mb,-a;xb:c,d,e;ad:2;ae:3;xb:d;");
        Edge.due("an earlier exchanger isn't one", x.check(0, 2, 0) * 10 + x.check(0, 3, 0), 23);
        Edge.bad("na:+b;na:+a;", "aa:256;aa:1;", "xa:;xa:b;");
    }

    private static void signs() {
        Edge.of(PART, "A rule consists of a sign (+, -, ~ or ?) and one of the following");
        Edge.good("na:+a;", "na:-a;", "na:~a;", "na:?a;");
        Edge.bad("na:a;", "na:*a;", "na: a;", "na:!a;", "na:=a;", "na:_a;", "na:,a;", "na:/a;", "na:.a;", "na:++a;", "na:+-a;",
            "na:a+;", "na:+;", "na:-;", "na:+a,a;", "na:+a,;", "na:%a;", "na:@a;", "na:^a;");
        Edge.due("the signs", Edge.rules(Edge.laid("na:?a,~a,-a,+a;"), 0), "?a,~a,-a,+a");
    }

    private static void kinds() {
        Edge.of(PART, "a all");
        Edge.good("na:+a;", "na:+a,-a;");
        Edge.bad("na:+aa;", "na:+a1;", "na:+a/8;", "na:+ab;", "na:+A;", "na:+b;", "na:+c;", "na:+d;", "na:+n;", "na:+o;", "na:+r;",
            "na:+x;", "na:+s;", "na:+1;", "na:+%d;");
        Edge.of(PART, "iNAME include");
        Edge.good("na:+ib;", "na:+ia;", "na:+iiiiiiii;");
        Edge.bad("na:+i;", "na:+iiiiiiiii;", "na:+I;", "na:+Ib;", "na:+i1;", "na:+i%d;", "na:+ib/8;");
        Edge.of(PART, "hNAME host");
        Edge.good("na:+hb;", "na:+ha;", "na:+hhhhhhhh;");
        Edge.bad("na:+h;", "na:+hhhhhhhhh;", "na:+Hb;", "na:+h1;", "na:+h%d;", "na:+hb/8;");
        Edge.of(PART, "mNAME mail");
        Edge.good("na:+mb;", "na:+ma;", "na:+mmmmmmmm;");
        Edge.bad("na:+m;", "na:+mmmmmmmmm;", "na:+Mb;", "na:+m1;", "na:+m%d;", "na:+mb/8;");
        Edge.of(PART, "eMACRO exists");
        Edge.good("na:+eb;", "na:+ea;", "na:+e%d;", "na:+eeeeeeeee;");
        Edge.bad("na:+e;", "na:+eeeeeeeeee;", "na:+Eb;", "na:+e1;", "na:+eb/8;", "na:+e,-a;");
        SendRules x = Edge.laid("na:+a,-p1/8,~ia,?ha,+ma,-ea;");
        for (int k = 0; k < 6; k++) {
            Edge.due("the kind of rule " + k, x.rule(0, k, 1), k);
        }
    }

    private static void prefix() {
        Edge.of(PART, "prefix, with the address A and the length L from 0 to 8");
        for (int n = 0; n <= 8; n++) {
            Edge.good("na:+p0/" + n + ";", "na:+p255/" + n + ";");
            SendRules x = Edge.laid("na:+p255/" + n + ";");
            Edge.due("A", x.rule(0, 0, 2), 255);
            Edge.due("L", x.rule(0, 0, 3), n);
        }
        Edge.bad("na:+p1/9;", "na:+p1/10;", "na:+p1/80;", "na:+p1/255;", "na:+p1/256;", "na:+p1/-1;", "na:+p1/;", "na:+p1;", "na:+p;",
            "na:+p/1;", "na:+p/;", "na:+p1//1;", "na:+p1/1/1;", "na:+p1:1;", "na:+p1,1;", "na:+p1 /1;", "na:+p1/ 1;", "na:+p256/8;",
            "na:+P1/8;", "na:+p18;", "na:+p1234;", "na:+p2558;", "na:+p2568;", "na:+p0000;", "na:+pa/8;", "na:+p1/a;", "na:+p1/8a;");
    }

    private static void macroParts() {
        Edge.of(PART, "A macro has 1 to 8 parts.");
        for (String part : new String[] {"a", "p", "%d", "%-o", "%1s", "%-7l"}) {
            for (int n = 1; n <= 8; n++) {
                Edge.good("na:+e" + part.repeat(n) + ";", "na:+e" + part.repeat(n) + ",-a;", "na:+e" + part.repeat(n) + ",rb;");
            }
            Edge.bad("na:+e" + part.repeat(9) + ";", "na:+e" + part.repeat(9) + ",-a;", "na:+e" + part.repeat(10) + ";");
        }
        Edge.due("no part, where an earlier macro had one", Edge.typed("na:+ea;na:+e;").fault(), 7);
        SendRules x = Edge.laid("na:+e%d%d;");
        x.lay();
        Edge.type(x, "na:+e;");
        Edge.due("no part, where an earlier text had two", x.fault(), 0);
        Edge.good("na:+ea%db%-oc%1sd%-7l;");
        Edge.bad("na:+e;", "na:+ea%db%-oc%1sd%-7lp;", "na:+ea%db%-oc%1sd%-7l%d;", "na:+e,+a;", "na:+e,rb;");
    }

    private static void macroPart() {
        Edge.of(PART, "A part is a letter from a to p, or %, optionally a minus sign, optionally a digit from 1 to 7, and one of the "
            + "letters d, o, s and l, in this order.");
        for (String part : new String[] {"a", "b", "o", "p", "d", "l"}) {
            Edge.good("na:+e" + part + ";");
        }
        for (String part : new String[] {"q", "s", "z", "`", "A", "P", "-", "1", "-d", "1d", "-1d", ".", " ", "a ", " a", "a-", "a1"}) {
            Edge.bad("na:+e" + part + ";");
        }
        for (char letter = ' '; letter <= '~'; letter++) {
            boolean named = "dosl".indexOf(letter) >= 0;
            for (String before : new String[] {"%", "%-", "%1", "%7", "%-1", "%-7"}) {
                String text = "na:+e" + before + letter + ";";
                if (named) {
                    Edge.good(text);
                } else {
                    Edge.bad(text);
                }
            }
        }
        for (char digit = '1'; digit <= '7'; digit++) {
            Edge.good("na:+e%" + digit + "d;", "na:+e%-" + digit + "s;");
        }
        Edge.bad("na:+e%0d;", "na:+e%8d;", "na:+e%9d;", "na:+e%-0d;", "na:+e%-8d;", "na:+e%11d;", "na:+e%12d;", "na:+e%01d;");
        Edge.bad("na:+e%1-d;", "na:+e%--d;", "na:+e%-1-d;", "na:+e%d1;", "na:+e%d-;", "na:+e-%d;", "na:+e1%d;", "na:+e%%d;", "na:+e%;",
            "na:+e%-;", "na:+e%7;", "na:+e%-7;", "na:+e%d%;", "na:+e%,-a;", "na:+e%+d;", "na:+e% d;", "na:+e%ds;");
        Edge.good("na:+e%dd;", "na:+e%do;", "na:+e%dl;", "na:+ed%d;", "na:+ed%-1dd;");
    }

    private static void errorPosition() {
        Edge.of(PART, "The error of a text is at the first character of the first item that is not as described");
        String[][] texts = {{"", "q"}, {"", "na:+a,-p1/9;"}, {"na:+a;", "aa:1,2,3,x;"}, {"na:+a;ab:1;xc:a;", "nd:+a,-a,~a,+;na:+a;"},
            {"na:+a;", "aa:1,2,256;aa:1,2,256;"}, {"na:+a;ab:1;", "x"}, {"na:+a;ab:1;", "ab:1"}, {"na:+a;ab:1;", ";ab:1;"},
            {"na:" + times(8, "+a") + ",rb;", "na:" + times(9, "+a") + ";"}, {"na:+a;", "na:+e%d%o%s%l%-d%-o%-s%-l%1d;"}};
        for (String[] text : texts) {
            Edge.due("fault of " + text[0] + text[1], Edge.typed(text[0] + text[1]).fault(), text[0].length());
        }
        Edge.due("the first of two", Edge.typed("na:+a;nb:+b;nc:+b;").fault(), 6);
    }

    private static final String TWELVE = "aa:1;nb:+a;xc:a;ad:1;ne:+a;xf:a;ag:1;nh:+a;xi:a;aj:1;nk:+a;xl:a;";

    private static void thirteenNames() {
        Edge.of(PART, "or by which more than 12 names would have a record");
        SendRules x = Edge.typed(TWELVE);
        Edge.due("fault of 12 names", x.fault(), Edge.NONE);
        Edge.due("lay of 12 names", x.lay(), 12);
        for (String item : new String[] {"nm:+a;", "am:1;", "xm:a;", "naa:+a;", "aaaaaaaa:1;", "xab:a;"}) {
            x = Edge.typed(TWELVE + item);
            Edge.due("fault of a 13th name by " + item, x.fault(), TWELVE.length());
            Edge.due("lay of a 13th name by " + item, x.lay(), Edge.NO);
        }
        Edge.due("more items for the 12 names", Edge.typed(TWELVE + "na:+a;ab:1;xl:a;nl:+a;al:1;").fault(), Edge.NONE);
        Edge.due("a 13th behind them", Edge.typed(TWELVE + "na:+a;ab:1;xm:a;nl:+a;").fault(), TWELVE.length() + 11);
        Edge.due("a 13th and a 14th", Edge.typed(TWELVE + "am:1;an:1;").fault(), TWELVE.length());
        Edge.due("another error before it", Edge.typed(TWELVE + "aa:;am:1;").fault(), TWELVE.length());
        Edge.due("another error behind it", Edge.typed(TWELVE + "am:1;aa:;").fault(), TWELVE.length());
        Edge.due("names that only stand in records are not counted",
            Edge.typed(TWELVE + "xa:m,n,o;na:+ip,+hmm,+mmn,+emo,rmp;").fault(), Edge.NONE);
        x = Edge.laid("na:+a;nb:+a;nc:+a;nd:+a;ne:+a;nf:+a;ng:+a;nh:+a;ni:+a;nj:+a;nk:+a;nl:+a;");
        Edge.due("12 names by policies", x.count(1), 12);
    }

    private static void positions() {
        Edge.of(PART, "positions count from 0");
        Edge.due("the first character", Edge.typed(";").fault(), 0);
        Edge.due("the first item", Edge.typed("na:+b;").fault(), 0);
        Edge.due("the second item", Edge.typed("na:+a;+").fault(), 6);
        Edge.due("the last of 240 characters", Edge.typed("na:+a;" + "xab:a;".repeat(38) + "ab:1;" + ";").fault(), 239);
    }

    private static void firstRecords() {
        Edge.of(PART, "At first the records are those of the text " + Edge.FIRST_TEXT);
        SendRules x = new SendRules();
        Edge.due("the records", Edge.records(x), "ab +p128/2,+i3,~h4,-a r-4 p1 a9 x2; ebb  r-4 p0 a1 x0; eb +e,-a r-4 p1 a x0; "
            + "ac ?p0/7,+m0 r2 p1 a x0; ad  r-4 p0 a7,200 x0; ");
        SendRules y = Edge.laid(Edge.FIRST_TEXT);
        Edge.due("the records of the text", Edge.records(y), Edge.records(x));
        // ab includes ac: 0 and 1 are neutral there, 7 and 200 are hosts of the exchanger ad, others are led to eb, which
        // makes the name ebb of its last two letters and the letter b.
        Edge.check(x, "ab", 128, 1, Edge.is(2, 0, 0), "ab", 0);
        Edge.check(x, "ab", 1, 1, Edge.is(3, 2, 0), "ab", 3);
        Edge.check(x, "ab", 7, 1, Edge.is(2, 2, 0), "ab", 1);
        Edge.check(x, "ab", 9, 1, Edge.is(2, 4, 0), "ab", 1);
        Edge.check(x, "ab", 9, 2, Edge.is(3, 5, 1), "ab", 3);
        Edge.check(x, "ac", 9, 1, Edge.is(2, 3, 0), "eb", 0);
    }

    private static void knownNames() {
        Edge.of(PART, "The known names are all names that had a record when the text was read (they remain known).");
        SendRules x = Edge.laid("nb:+id,-he,~mf,?eg,rh;xc:i,j;ak:1;");
        Edge.due("names with a record", x.count(0), 3);
        for (String name : new String[] {"d", "e", "f", "g", "h", "i", "j", "a", "n", "p"}) {
            Edge.due("the number of " + name, Edge.number(x, name), Edge.NONE);
        }
        Edge.due("remove the only record of k", x.host(2, 1, 0), 0);
        Edge.due("k is still known", x.count(0), 3);
        Edge.due("k is still found", Edge.number(x, "k"), 2);
        Edge.due("k has no hosts", x.name(2, 2), 0);
        Edge.due("k can have hosts again", x.host(2, 255, 1), 1);
        Edge.due("a check of k", x.check(2, 255, 0), 0);
        x = Edge.laid("na:+hb;na:+hc;ab:1;ab:2;");
        Edge.due("a name of two items is one name", x.count(0), 2);
    }

    private static void inOrder(String... names) {
        StringBuilder forth = new StringBuilder("n" + names[0] + ":+a;");
        StringBuilder back = new StringBuilder();
        for (int k = 1; k < names.length; k++) {
            forth.append("a").append(names[k]).append(":1;");
        }
        for (int k = names.length - 1; k > 0; k--) {
            back.append("x").append(names[k]).append(":a;");
        }
        back.append("n").append(names[0]).append(":-a;");
        for (String text : new String[] {forth.toString(), back.toString()}) {
            SendRules x = Edge.laid(text);
            for (int k = 0; k < names.length; k++) {
                Edge.due("the number of " + names[k] + " with " + text, Edge.number(x, names[k]), k);
            }
        }
    }

    private static void order() {
        Edge.of(PART, "They are numbered from 0 in the order of their last letters, those with the same last letter in the order of "
            + "their last but one letters, and so on");
        inOrder("a");
        inOrder("a", "b", "c", "o", "p");
        inOrder("pa", "ab");
        inOrder("ppa", "aab", "abb", "bbb", "apb", "aap", "pop");
        inOrder("aaaaaaa", "baaaaaa", "abaaaaa", "aaaaaba", "aaaaaab", "ppppppp");
        Edge.of(PART, "a name that is the end of a longer one comes before it");
        inOrder("a", "aa", "aaa", "aaaa", "aaaaa", "aaaaaa", "aaaaaaa", "b");
        inOrder("p", "ap", "aap", "pap", "bp", "pp", "ppp", "ppppppp");
        inOrder("cb", "acb", "aacb", "bcb", "pcb", "db");
    }

    public static void main(String[] args) {
        names();
        addresses();
        sizes();
        textLength();
        items();
        cutItems();
        sorts();
        policySize();
        redirect();
        hosts();
        exchangers();
        numbers();
        severalItems();
        signs();
        kinds();
        prefix();
        macroParts();
        macroPart();
        errorPosition();
        thirteenNames();
        positions();
        firstRecords();
        knownNames();
        order();
        Edge.end("RecordsEdges");
    }
}
