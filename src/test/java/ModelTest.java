import java.util.ArrayList;
import java.util.Collections;
import java.util.HashMap;
import java.util.List;
import java.util.Map;
import java.util.Random;
import java.util.TreeMap;
import java.util.regex.Matcher;
import java.util.regex.Pattern;

/** Compares SendRules, call by call, with a second evaluator that is written straight from the document on texts. */
public final class ModelTest {
    private static final int SEEDS = 1000;
    private static final int CALLS = 512;

    /** The second evaluator: names are Strings, records are maps, the end of a check is an exception. */
    static final class Model {
        static final String NAME = "[a-p]{1,7}";
        static final String NUMBER = "[0-9]{1,3}";
        static final String MACRO = "(?:[a-p]|%-?[1-7]?[dosl]){1,8}";
        static final String RULE = "[-+~?](?:a|p" + NUMBER + "/" + NUMBER + "|[ihm]" + NAME + "|e" + MACRO + ")";
        static final Pattern ITEM = Pattern.compile(
            "n(" + NAME + "):(" + RULE + "(?:," + RULE + "){0,7})(?:,r(" + NAME + "))?;"
            + "|a(" + NAME + "):(" + NUMBER + "(?:," + NUMBER + "){0,3});"
            + "|x(" + NAME + "):(" + NAME + "(?:," + NAME + "){0,2});");
        static final Pattern PREFIX = Pattern.compile("p(" + NUMBER + ")/(" + NUMBER + ")");
        static final String FIRST =
            "nab:+p128/2,+iac,~had,-a;nac:?p0/7,+mab,reb;neb:+e%2d%l,-a;aad:7,200;xab:ad,eb;aab:9;aebb:1;";

        static final class Set {
            final TreeMap<String, String> known = new TreeMap<>();
            final Map<String, List<String>> rules = new HashMap<>();
            final Map<String, String> redirects = new HashMap<>();
            final Map<String, List<Integer>> hosts = new HashMap<>();
            final Map<String, List<String>> exchangers = new HashMap<>();
            int error = -4;

            Set copy() {
                Set c = new Set();
                c.known.putAll(known);
                rules.forEach((k, v) -> c.rules.put(k, new ArrayList<>(v)));
                c.redirects.putAll(redirects);
                hosts.forEach((k, v) -> c.hosts.put(k, new ArrayList<>(v)));
                exchangers.forEach((k, v) -> c.exchangers.put(k, new ArrayList<>(v)));
                return c;
            }

            List<String> names() {
                return new ArrayList<>(known.values());
            }
        }

        static final class End extends RuntimeException {
            End() {
                super(null, null, false, false);
            }
        }

        String text = "";
        Set set = read(FIRST);
        final List<Set> former = new ArrayList<>();
        final List<int[]> kept = new ArrayList<>();

        static String backwards(String s) {
            return new StringBuilder(s).reverse().toString();
        }

        static Set read(String text) {
            Set s = new Set();
            Matcher m = ITEM.matcher(text);
            int at = 0;
            while (at < text.length()) {
                m.region(at, text.length());
                if (!m.lookingAt() || !numbersFit(m)) {
                    s.error = at;
                    return s;
                }
                String name = m.group(1) != null ? m.group(1) : m.group(4) != null ? m.group(4) : m.group(6);
                s.known.put(backwards(name), name);
                if (s.known.size() > 12) {
                    s.error = at;
                    return s;
                }
                if (m.group(1) != null) {
                    s.rules.put(name, new ArrayList<>(List.of(m.group(2).split(","))));
                    s.redirects.put(name, m.group(3) == null ? "" : m.group(3));
                } else if (m.group(4) != null) {
                    List<Integer> l = new ArrayList<>();
                    for (String n : m.group(5).split(",")) {
                        l.add(Integer.valueOf(n));
                    }
                    s.hosts.put(name, l);
                } else {
                    s.exchangers.put(name, List.of(m.group(7).split(",")));
                }
                at = m.end();
            }
            return s;
        }

        static boolean numbersFit(Matcher m) {
            if (m.group(4) != null) {
                for (String n : m.group(5).split(",")) {
                    if (Integer.parseInt(n) > 255) {
                        return false;
                    }
                }
            }
            if (m.group(1) != null) {
                for (String r : m.group(2).split(",")) {
                    Matcher p = PREFIX.matcher(r.substring(1));
                    if (p.matches() && (Integer.parseInt(p.group(1)) > 255 || Integer.parseInt(p.group(2)) > 8)) {
                        return false;
                    }
                }
            }
            return true;
        }

        String origin;
        int address;
        int letter;
        int lookups;
        int empty;
        String decName;
        int decRule;

        int[] make(int name, int a, int l) {
            origin = set.names().get(name);
            address = a;
            letter = l;
            lookups = 0;
            empty = 0;
            decName = null;
            int result;
            try {
                result = result(origin, true);
            } catch (End e) {
                result = 5;
                decName = null;
            }
            return new int[] {name, a, l, result, lookups, empty,
                decName == null ? -4 : set.names().indexOf(decName), decName == null ? -4 : decRule};
        }

        int result(String name, boolean outer) {
            if (!set.rules.containsKey(name)) {
                return 0;
            }
            List<String> rules = set.rules.get(name);
            for (int k = 0; k < rules.size(); k++) {
                String r = rules.get(k);
                if (match(r.substring(1), name)) {
                    if (outer) {
                        decName = name;
                        decRule = k;
                    }
                    return switch (r.charAt(0)) {
                        case '+' -> 2;
                        case '-' -> 3;
                        case '~' -> 4;
                        default -> 1;
                    };
                }
            }
            if (set.redirects.get(name).isEmpty()) {
                return 1;
            }
            lookup();
            int r = result(set.redirects.get(name), outer);
            if (r == 0) {
                throw new End();
            }
            return r;
        }

        void lookup() {
            if (++lookups == 11) {
                throw new End();
            }
        }

        void nothing() {
            if (++empty == 3) {
                throw new End();
            }
        }

        static String bits(int n) {
            return String.format("%8s", Integer.toBinaryString(n)).replace(' ', '0');
        }

        boolean match(String r, String name) {
            String rest = r.substring(1);
            switch (r.charAt(0)) {
                case 'a':
                    return true;
                case 'p':
                    String[] al = rest.split("/");
                    int l = Integer.parseInt(al[1]);
                    return bits(Integer.parseInt(al[0])).substring(0, l).equals(bits(address).substring(0, l));
                case 'i':
                    lookup();
                    int result = result(rest, false);
                    if (result == 0) {
                        throw new End();
                    }
                    return result == 2;
                case 'h':
                    lookup();
                    if (hosts(rest).isEmpty()) {
                        nothing();
                    }
                    return hosts(rest).contains(address);
                case 'm':
                    lookup();
                    List<String> x = set.exchangers.getOrDefault(rest, List.of());
                    if (x.isEmpty()) {
                        nothing();
                    }
                    for (String e : x) {
                        if (hosts(e).contains(address)) {
                            return true;
                        }
                    }
                    return false;
                default:
                    lookup();
                    if (hosts(expand(rest, name)).isEmpty()) {
                        nothing();
                        return false;
                    }
                    return true;
            }
        }

        List<Integer> hosts(String name) {
            return set.hosts.getOrDefault(name, List.of());
        }

        String expand(String macro, String name) {
            Matcher m = Pattern.compile("([a-p])|%(-?)([1-7]?)([dosl])").matcher(macro);
            StringBuilder whole = new StringBuilder();
            while (m.find()) {
                if (m.group(1) != null) {
                    whole.append(m.group(1));
                    continue;
                }
                String t = switch (m.group(4).charAt(0)) {
                    case 'd' -> name;
                    case 'o' -> origin;
                    case 's' -> String.format("%4s", Integer.toString(address, 4)).replace(' ', '0')
                        .replace('0', 'a').replace('1', 'b').replace('2', 'c').replace('3', 'd');
                    default -> String.valueOf((char) ('a' + letter));
                };
                if (!m.group(2).isEmpty()) {
                    t = backwards(t);
                }
                if (!m.group(3).isEmpty()) {
                    t = t.substring(Math.max(0, t.length() - Integer.parseInt(m.group(3))));
                }
                whole.append(t);
            }
            return whole.substring(Math.max(0, whole.length() - 7));
        }

        int number(String name) {
            int k = set.names().indexOf(name);
            return k < 0 ? -4 : k;
        }

        void changed(Set before) {
            former.add(before);
            if (former.size() > 4) {
                former.remove(0);
            }
            kept.clear();
        }

        List<String> rulesOf(int name) {
            return set.rules.getOrDefault(set.names().get(name), List.of());
        }

        boolean no(int name) {
            return name < 0 || name >= set.known.size();
        }

        int call(String m, int[] a) {
            switch (m) {
                case "write":
                    if (a[0] < 32 || a[0] > 126) {
                        return -1;
                    }
                    if (text.length() == 240) {
                        return -3;
                    }
                    text += (char) a[0];
                    return text.length();
                case "wipe":
                    int was = text.length();
                    text = "";
                    return was;
                case "fault":
                    return read(text).error;
                case "lay":
                    Set s = read(text);
                    if (s.error != -4 || s.rules.isEmpty()) {
                        return -2;
                    }
                    set = s;
                    former.clear();
                    kept.clear();
                    return s.known.size();
                case "named":
                    return named(a[0]);
                case "check":
                    if (no(a[0]) || a[1] < 0 || a[1] > 255 || a[2] < 0 || a[2] > 15) {
                        return -1;
                    }
                    kept.removeIf(k -> k[0] == a[0] && k[1] == a[1] && k[2] == a[2]);
                    kept.add(0, make(a[0], a[1], a[2]));
                    if (kept.size() > 4) {
                        kept.remove(4);
                    }
                    return kept.get(0)[3];
                case "kept":
                    return a[0] < 0 || a[1] < 0 || a[1] > 7 ? -1 : a[0] >= kept.size() ? -4 : kept.get(a[0])[a[1]];
                case "undo":
                    if (former.isEmpty()) {
                        return -2;
                    }
                    set = former.remove(former.size() - 1);
                    kept.clear();
                    return former.size();
                case "count":
                    return count(a[0]);
                case "sign":
                case "swap":
                case "host":
                    return change(m, a);
                case "many":
                case "dead":
                case "lookups":
                    return overAll(m, a);
                default:
                    return property(m, a);
            }
        }

        int named(int what) {
            if (what < 0 || what > 2) {
                return -1;
            }
            if (!text.matches(NAME)) {
                return -2;
            }
            String key = backwards(text);
            String got = what == 0 ? (set.known.containsKey(key) ? key : null)
                : what == 1 ? set.known.floorKey(key) : set.known.ceilingKey(key);
            return got == null ? -4 : number(set.known.get(got));
        }

        int count(int what) {
            return switch (what) {
                case 0 -> set.known.size();
                case 1 -> set.rules.size();
                case 2 -> set.rules.values().stream().mapToInt(List::size).sum();
                case 3 -> set.hosts.values().stream().mapToInt(List::size).sum();
                case 4 -> kept.size();
                case 5 -> former.size();
                case 6 -> text.length();
                default -> -1;
            };
        }

        int change(String m, int[] a) {
            if (no(a[0])) {
                return -1;
            }
            String name = set.names().get(a[0]);
            Set before = set.copy();
            if (m.equals("host")) {
                if (a[1] < 0 || a[1] > 255 || a[2] < 0 || a[2] > 1) {
                    return -1;
                }
                List<Integer> hosts = set.hosts.computeIfAbsent(name, k -> new ArrayList<>());
                if (hosts.contains(a[1]) == (a[2] == 1)) {
                    return -2;
                }
                if (a[2] == 1 && hosts.size() == 4) {
                    return -3;
                }
                if (a[2] == 1) {
                    hosts.add(a[1]);
                } else {
                    hosts.remove((Integer) a[1]);
                }
                changed(before);
                return hosts.size();
            }
            List<String> rules = rulesOf(a[0]);
            if (a[1] < 0 || a[1] >= rules.size()) {
                return -1;
            }
            if (m.equals("swap")) {
                if (a[1] == rules.size() - 1) {
                    return -2;
                }
                Collections.swap(rules, a[1], a[1] + 1);
                changed(before);
                return rules.size();
            }
            if (a[2] < 0 || a[2] > 3) {
                return -1;
            }
            int sign = "+-~?".indexOf(rules.get(a[1]).charAt(0));
            if (sign == a[2]) {
                return -2;
            }
            rules.set(a[1], "+-~?".charAt(a[2]) + rules.get(a[1]).substring(1));
            changed(before);
            return sign;
        }

        int overAll(String m, int[] a) {
            if (no(a[0]) || a[1] < 0 || a[1] > 15) {
                return -1;
            }
            if (m.equals("many") && (a[2] < 0 || a[2] > 5)) {
                return -1;
            }
            if (m.equals("lookups") && (a[3] < 0 || a[3] > 1 || a[3] == 0 && a[2] < 0)) {
                return -1;
            }
            int many = 0;
            int dead = (1 << rulesOf(a[0]).size()) - 1;
            long sum = 0;
            for (int k = 0; k < 256; k++) {
                int[] c = make(a[0], k, a[1]);
                if (m.equals("many") && c[3] == a[2]) {
                    many++;
                }
                if (c[6] == a[0]) {
                    dead &= ~(1 << c[7]);
                }
                sum += c[4];
            }
            if (m.equals("lookups")) {
                return a[3] == 1 ? Float.floatToIntBits((float) sum / 256)
                    : sum * a[2] > Integer.MAX_VALUE ? -3 : (int) (sum * a[2]);
            }
            return m.equals("many") ? many : dead;
        }

        void lead(String name, java.util.Set<String> reached) {
            List<String> steps = new ArrayList<>();
            for (String r : set.rules.getOrDefault(name, List.of())) {
                if (r.charAt(1) == 'i') {
                    steps.add(r.substring(2));
                }
            }
            steps.add(set.redirects.getOrDefault(name, ""));
            for (String s : steps) {
                if (set.rules.containsKey(s) && reached.add(s)) {
                    lead(s, reached);
                }
            }
        }

        int property(String m, int[] a) {
            if (no(a[0])) {
                return -1;
            }
            String name = set.names().get(a[0]);
            switch (m) {
                case "name":
                    return switch (a[1]) {
                        case 0 -> name.length();
                        case 1 -> rulesOf(a[0]).size();
                        case 2 -> hosts(name).size();
                        case 3 -> set.exchangers.getOrDefault(name, List.of()).size();
                        case 4 -> number(set.redirects.getOrDefault(name, ""));
                        case 5 -> set.rules.containsKey(name) ? 1 : 0;
                        default -> -1;
                    };
                case "letter":
                    return a[1] < 0 ? -1 : a[1] >= name.length() ? -4 : name.charAt(a[1]) - 'a';
                case "hostOf":
                    return a[1] < 0 ? -1 : a[1] >= hosts(name).size() ? -4 : hosts(name).get(a[1]);
                case "leads":
                    java.util.Set<String> reached = new java.util.HashSet<>();
                    lead(name, reached);
                    return reached.stream().mapToInt(n -> 1 << number(n)).sum();
                default:
                    if (a[1] < 0 || a[1] >= rulesOf(a[0]).size() || a[2] < 0 || a[2] > 4) {
                        return -1;
                    }
                    String r = rulesOf(a[0]).get(a[1]);
                    Matcher p = PREFIX.matcher(r.substring(1));
                    boolean prefix = p.matches();
                    return switch (a[2]) {
                        case 0 -> "+-~?".indexOf(r.charAt(0));
                        case 1 -> "apihme".indexOf(r.charAt(1));
                        case 2 -> prefix ? Integer.parseInt(p.group(1)) : -4;
                        case 3 -> prefix ? Integer.parseInt(p.group(2)) : -4;
                        default -> "ihm".indexOf(r.charAt(1)) < 0 ? -4 : number(r.substring(2));
                    };
            }
        }
    }

    static int real(SendRules x, String m, int[] a) {
        return switch (m) {
            case "write" -> x.write(a[0]);
            case "wipe" -> x.wipe();
            case "fault" -> x.fault();
            case "lay" -> x.lay();
            case "named" -> x.named(a[0]);
            case "check" -> x.check(a[0], a[1], a[2]);
            case "kept" -> x.kept(a[0], a[1]);
            case "sign" -> x.sign(a[0], a[1], a[2]);
            case "swap" -> x.swap(a[0], a[1]);
            case "host" -> x.host(a[0], a[1], a[2]);
            case "undo" -> x.undo();
            case "name" -> x.name(a[0], a[1]);
            case "letter" -> x.letter(a[0], a[1]);
            case "rule" -> x.rule(a[0], a[1], a[2]);
            case "hostOf" -> x.hostOf(a[0], a[1]);
            case "many" -> x.many(a[0], a[1], a[2]);
            case "dead" -> x.dead(a[0], a[1]);
            case "lookups" -> x.lookups(a[0], a[1], a[2], a[3]);
            case "leads" -> x.leads(a[0]);
            default -> x.count(a[0]);
        };
    }

    /** Texts with few names that meet one another, now and then with something wrong in them. */
    static final class Texts {
        final Random random;
        final String[] pool;

        Texts(Random random) {
            this.random = random;
            pool = new String[2 + random.nextInt(random.nextInt(4) == 0 ? 14 : 5)];
            for (int k = 0; k < pool.length; k++) {
                pool[k] = k > 0 && random.nextInt(3) == 0 ? around(pool[random.nextInt(k)]) : letters(1 + random.nextInt(3));
            }
        }

        String letters(int n) {
            StringBuilder b = new StringBuilder();
            for (int k = 0; k < n; k++) {
                b.append((char) ('a' + random.nextInt(random.nextInt(8) == 0 ? 16 : 3)));
            }
            return b.toString();
        }

        String around(String s) {
            String longer = random.nextBoolean() ? letters(1 + random.nextInt(3)) + s : s + letters(1 + random.nextInt(3));
            return longer.substring(Math.max(0, longer.length() - 7));
        }

        String name() {
            return random.nextInt(12) == 0 ? letters(1 + random.nextInt(7)) : pool[random.nextInt(pool.length)];
        }

        String number(int most) {
            String plain = String.valueOf(random.nextInt(most + 1));
            return random.nextInt(10) == 0 && plain.length() < 3 ? "0" + plain : plain;
        }

        String address() {
            return random.nextBoolean() ? number(15) : number(255);
        }

        String macro() {
            StringBuilder b = new StringBuilder();
            int parts = 1 + random.nextInt(random.nextInt(5) == 0 ? 8 : 2);
            for (int k = 0; k < parts; k++) {
                if (random.nextInt(3) == 0) {
                    b.append(letters(1));
                } else {
                    b.append('%').append(random.nextInt(3) == 0 ? "-" : "");
                    b.append(random.nextInt(3) > 0 ? String.valueOf(1 + random.nextInt(random.nextInt(4) == 0 ? 7 : 2)) : "");
                    b.append("dosl".charAt(random.nextInt(4)));
                }
            }
            return b.toString();
        }

        String rule() {
            char sign = "+-~?".charAt(random.nextInt(4));
            return sign + switch (random.nextInt(12)) {
                case 0 -> "a";
                case 1, 2, 3 -> "p" + address() + "/" + number(8);
                case 4, 5, 6 -> "i" + name();
                case 7, 8 -> "h" + name();
                case 9 -> "m" + name();
                default -> "e" + macro();
            };
        }

        String item() {
            StringBuilder b = new StringBuilder();
            int sort = random.nextInt(4);
            if (sort < 2) {
                int n = 1 + random.nextInt(random.nextInt(5) == 0 ? 8 : 3);
                b.append('n').append(name()).append(':').append(rule());
                for (int k = 1; k < n; k++) {
                    b.append(',').append(rule());
                }
                if (random.nextInt(2) == 0) {
                    b.append(",r").append(name());
                }
            } else if (sort == 2) {
                b.append('a').append(name()).append(':').append(address());
                for (int k = random.nextInt(4); k > 0; k--) {
                    b.append(',').append(address());
                }
            } else {
                b.append('x').append(name()).append(':').append(name());
                for (int k = random.nextInt(3); k > 0; k--) {
                    b.append(',').append(name());
                }
            }
            return b.append(';').toString();
        }

        String text(int room) {
            StringBuilder b = new StringBuilder();
            for (int k = 1 + random.nextInt(20); k > 0; k--) {
                String i = item();
                if (b.length() + i.length() <= room) {
                    b.append(i);
                }
            }
            for (int k = random.nextInt(3) == 0 ? 1 + random.nextInt(2) : 0; k > 0 && b.length() > 0; k--) {
                int at = random.nextInt(b.length());
                char c = "nax:;,+-~?pihmer%/0123456789dosl abq".charAt(random.nextInt(36));
                switch (random.nextInt(3)) {
                    case 0 -> b.setCharAt(at, c);
                    case 1 -> b.deleteCharAt(at);
                    default -> b.insert(at, c);
                }
            }
            return b.length() > 240 ? b.substring(0, 240) : b.toString();
        }
    }

    static final class Run {
        final Random random;
        final SendRules x = new SendRules();
        final Model model = new Model();
        final Texts texts;
        final long seed;
        final Map<String, Integer> seen;
        int calls;

        Run(long seed, Map<String, Integer> seen) {
            this.seed = seed;
            this.seen = seen;
            random = new Random(seed);
            texts = new Texts(random);
        }

        boolean same(String m, int... a) {
            if (calls++ >= CALLS) {
                return true;
            }
            int due = model.call(m, a);
            int got = real(x, m, a);
            seen.merge(m + (due < 0 ? due : ""), 1, Integer::sum);
            if (m.equals("check")) {
                seen.merge("result " + due, 1, Integer::sum);
            }
            if (due != got) {
                System.out.println("seed " + seed + ", call " + calls + ": " + m + java.util.Arrays.toString(a)
                    + " answered " + got + ", due is " + due + "; text " + model.text);
            }
            return due == got;
        }

        int odd(int most) {
            int[] odd = {-1, most + 1, Integer.MIN_VALUE, Integer.MAX_VALUE, most + 7};
            return random.nextInt(25) == 0 ? odd[random.nextInt(5)] : random.nextInt(most + 1);
        }

        int name() {
            return odd(model.set.known.size() - 1);
        }

        int address() {
            return random.nextBoolean() ? random.nextInt(16) : odd(255);
        }

        int letter() {
            return random.nextBoolean() ? random.nextInt(3) : odd(15);
        }

        int rule(int name) {
            return odd(model.no(name) ? 3 : Math.max(0, model.rulesOf(name).size() - 1));
        }

        boolean writeAll(String s) {
            boolean good = same("wipe");
            for (int k = 0; k < s.length(); k++) {
                good &= same("write", s.charAt(k));
            }
            return good;
        }

        boolean all() {
            boolean good = true;
            if (random.nextInt(8) > 0) {
                good = writeAll(texts.text(random.nextInt(4) == 0 ? 240 : 150)) && same("fault") && same("lay");
            }
            while (good && calls < CALLS) {
                good = one();
            }
            return good;
        }

        boolean one() {
            int n = name();
            switch (random.nextInt(22)) {
                case 0:
                    return random.nextInt(10) > 0 || same("write", odd(200));
                case 1:
                    return random.nextInt(4) > 0 || writeAll(random.nextBoolean() ? texts.name() : texts.letters(1 + random.nextInt(8)))
                        && same("named", 0) && same("named", 1) && same("named", 2) && same("named", odd(2));
                case 2:
                    return random.nextInt(20) > 0 || writeAll(texts.text(60)) && same("fault") && same("lay") && same("fault");
                case 3:
                case 4:
                case 5:
                    boolean good = same("check", n, address(), letter());
                    for (int k = 0; k < 8; k++) {
                        good &= same("kept", 0, k);
                    }
                    return good;
                case 6:
                    return same("check", random.nextInt(2), random.nextInt(2), random.nextInt(2));
                case 7:
                    return same("kept", odd(4), odd(7));
                case 8:
                    return same("sign", n, rule(n), odd(3));
                case 9:
                    return same("swap", n, rule(n));
                case 10:
                case 11:
                    return same("host", n, random.nextInt(4) > 0 ? random.nextInt(16) : address(), odd(1));
                case 12:
                    List<Integer> hosts = model.no(n) ? List.of() : model.hosts(model.set.names().get(n));
                    return hosts.isEmpty() || same("host", n, hosts.get(random.nextInt(hosts.size())), 0);
                case 13:
                    return same("undo");
                case 14:
                    return same("name", n, odd(5));
                case 15:
                    return same("letter", n, odd(7));
                case 16:
                    return same("rule", n, rule(n), odd(4));
                case 17:
                    return same("hostOf", n, odd(4));
                case 18:
                    return random.nextInt(3) > 0 || same("many", n, letter(), odd(5));
                case 19:
                    return random.nextInt(3) > 0 || same("dead", n, letter());
                case 20:
                    return random.nextInt(3) > 0
                        || same("lookups", n, letter(), random.nextBoolean() ? random.nextInt(9) : random.nextInt(), odd(1));
                default:
                    return same("leads", n) && same("count", odd(6));
            }
        }
    }

    public static void main(String[] args) {
        long from = args.length > 1 ? Long.parseLong(args[0]) : 0;
        long to = args.length > 1 ? Long.parseLong(args[1]) : SEEDS;
        Map<String, Integer> seen = new TreeMap<>();
        int wrong = 0;
        for (long seed = from; seed < to && wrong < 10; seed++) {
            if (!new Run(seed, seen).all()) {
                wrong++;
            }
        }
        if (args.length > 2) {
            System.out.println(seen);
        }
        System.out.println(wrong == 0 ? "all runs are as the model's" : wrong + " runs are not as the model's");
        if (wrong != 0) {
            System.exit(1);
        }
    }
}
