/** Reads records of names from a text and tells, by their policies, whether an address may send for a name. */
public final class SendRules {
    public static final int BAD = -1, NO = -2, NONE = -4, FULL = -3;

    private static final String FIRST_TEXT =
        "nab:+p128/2,+iac,~had,-a;nac:?p0/7,+mab,reb;neb:+e%2d%l,-a;aad:7,200;xab:ad,eb;aab:9;aebb:1;";
    private static final String SIGNS = "+-~?";
    private static final String KINDS = "apihme";
    private static final String SOURCES = "dosl";

    private static final int MAX_TEXT = 240;
    private static final int MAX_NAMES = 12;
    private static final int MAX_LENGTH = 7;
    private static final int MAX_RULES = 8;
    private static final int MAX_HOSTS = 4;
    private static final int MAX_EXCHANGERS = 3;
    private static final int MAX_PARTS = 8;
    private static final int MAX_DIGITS = 3;
    private static final int MAX_LOOKUPS = 10;
    private static final int MAX_EMPTY = 2;
    private static final int MAX_KEPT = 4;
    private static final int MAX_CHANGES = 4;

    private static final int ADDRESSES = 256;
    private static final int BITS = 8;
    private static final int LETTERS = 16;

    private static final int ALL = 0;
    private static final int PREFIX = 1;
    private static final int INCLUDE = 2;
    private static final int HOST = 3;
    private static final int MAIL = 4;
    private static final int EXISTS = 5;

    private static final int RESULT_NONE = 0;
    private static final int RESULT_NEUTRAL = 1;
    private static final int RESULT_PASS = 2;
    private static final int RESULT_FAIL = 3;
    private static final int RESULT_SOFT = 4;
    private static final int RESULT_ERROR = 5;

    private static final int SIGN_CHANGE = 0;
    private static final int SWAP_CHANGE = 1;
    private static final int ADD_CHANGE = 2;
    private static final int REMOVE_CHANGE = 3;

    /** A macro part comes from one of the 16 letters, by its number, or from one of these. */
    private static final int FROM_DOMAIN = LETTERS;
    private static final int FROM_ORIGIN = LETTERS + 1;
    private static final int FROM_ADDRESS = LETTERS + 2;
    private static final int FROM_LETTER = LETTERS + 3;
    private static final int ADDRESS_LENGTH = 4;

    /** The code of a name is a number of seven digits; the digit 0 means that the name has no letter there. */
    private static final int DIGIT_VALUES = LETTERS + 1;
    private static final int NO_NAME = 0;
    private static final int UNKNOWN = -1;

    private static final int KEPT_VALUES = 8;
    private static final int GREATEST = 2147483647;

    private final Reader reader = new Reader();
    private Records present;
    private Records spare = new Records();
    private final Evaluator evaluator = new Evaluator();
    private final KeptChecks keptChecks = new KeptChecks();
    private final History history = new History();

    public SendRules() {
        Records first = new Records();
        for (int k = 0; k < FIRST_TEXT.length(); k++) {
            reader.append(FIRST_TEXT.charAt(k));
        }
        reader.readAll(first);
        reader.empty();
        present = first;
    }

    public int write(int letter) {
        if (letter < 32 || letter > 126) {
            return BAD;
        }
        return reader.append((char) letter) ? reader.length : FULL;
    }

    public int wipe() {
        int before = reader.length;
        reader.empty();
        return before;
    }

    public int fault() {
        return reader.readAll(spare);
    }

    public int lay() {
        if (reader.readAll(spare) != NONE || spare.policies() == 0) {
            return NO;
        }
        Records former = present;
        present = spare;
        spare = former;
        keptChecks.clear();
        history.clear();
        return present.size;
    }

    public int named(int what) {
        if (what < 0 || what > 2) {
            return BAD;
        }
        int code = reader.readWholeAsName();
        if (code == NO_NAME) {
            return NO;
        }
        int exact = present.find(code);
        if (what == 0 || exact != UNKNOWN) {
            return exact == UNKNOWN ? NONE : exact;
        }
        int next = present.firstNotBefore(code);
        if (what == 1) {
            return next > 0 ? next - 1 : NONE;
        }
        return next < present.size ? next : NONE;
    }

    public int check(int name, int address, int letter) {
        if (!isKnown(name) || !isAddress(address) || !isLetter(letter)) {
            return BAD;
        }
        int result = evaluator.evaluate(present, name, address, letter);
        keptChecks.keep(evaluator, name, result);
        return result;
    }

    public int kept(int k, int what) {
        if (k < 0 || what < 0 || what >= KEPT_VALUES) {
            return BAD;
        }
        return keptChecks.valueOf(k, what);
    }

    public int sign(int name, int rule, int sign) {
        Rule chosen = ruleAt(name, rule);
        if (chosen == null || sign < 0 || sign >= SIGNS.length()) {
            return BAD;
        }
        int before = chosen.sign;
        if (before == sign) {
            return NO;
        }
        chosen.sign = sign;
        noteChange(SIGN_CHANGE, name, rule, before);
        return before;
    }

    public int swap(int name, int rule) {
        Domain domain = present.domainAt(name);
        if (domain == null || domain.ruleAt(rule) == null) {
            return BAD;
        }
        if (!domain.swapRules(rule)) {
            return NO;
        }
        noteChange(SWAP_CHANGE, name, rule, 0);
        return domain.ruleCount;
    }

    public int host(int name, int address, int is) {
        Domain domain = present.domainAt(name);
        if (domain == null || !isAddress(address) || is < 0 || is > 1) {
            return BAD;
        }
        int place = domain.placeOfHost(address);
        if ((place != UNKNOWN) == (is == 1)) {
            return NO;
        }
        if (is == 0) {
            domain.removeHost(place);
            noteChange(REMOVE_CHANGE, name, place, address);
            return domain.hostCount;
        }
        if (!domain.insertHost(domain.hostCount, address)) {
            return FULL;
        }
        noteChange(ADD_CHANGE, name, domain.hostCount - 1, address);
        return domain.hostCount;
    }

    public int undo() {
        Change change = history.takeLatest();
        if (change == null) {
            return NO;
        }
        takeBack(change);
        keptChecks.clear();
        return history.size;
    }

    public int name(int name, int what) {
        Domain domain = present.domainAt(name);
        if (domain == null) {
            return BAD;
        }
        switch (what) {
            case 0:
                return domain.length;
            case 1:
                return domain.ruleCount;
            case 2:
                return domain.hostCount;
            case 3:
                return domain.exchangerCount;
            case 4:
                return numberOrNone(domain.redirect);
            case 5:
                return domain.hasPolicy ? 1 : 0;
            default:
                return BAD;
        }
    }

    public int letter(int name, int k) {
        Domain domain = present.domainAt(name);
        if (domain == null || k < 0) {
            return BAD;
        }
        return k < domain.length ? domain.fromEnd[domain.length - 1 - k] : NONE;
    }

    public int rule(int name, int rule, int what) {
        Rule chosen = ruleAt(name, rule);
        if (chosen == null) {
            return BAD;
        }
        switch (what) {
            case 0:
                return chosen.sign;
            case 1:
                return chosen.kind;
            case 2:
                return chosen.kind == PREFIX ? chosen.address : NONE;
            case 3:
                return chosen.kind == PREFIX ? chosen.bits : NONE;
            case 4:
                return numberOrNone(chosen.target);
            default:
                return BAD;
        }
    }

    public int hostOf(int name, int k) {
        Domain domain = present.domainAt(name);
        if (domain == null || k < 0) {
            return BAD;
        }
        return k < domain.hostCount ? domain.hosts[k] : NONE;
    }

    public int many(int name, int letter, int answer) {
        if (!isKnown(name) || !isLetter(letter) || answer < RESULT_NONE || answer > RESULT_ERROR) {
            return BAD;
        }
        int found = 0;
        for (int address = 0; address < ADDRESSES; address++) {
            if (evaluator.evaluate(present, name, address, letter) == answer) {
                found++;
            }
        }
        return found;
    }

    public int dead(int name, int letter) {
        Domain domain = present.domainAt(name);
        if (domain == null || !isLetter(letter)) {
            return BAD;
        }
        int deciding = 0;
        for (int address = 0; address < ADDRESSES; address++) {
            evaluator.evaluate(present, name, address, letter);
            if (evaluator.decidingName == name) {
                deciding |= 1 << evaluator.decidingRule;
            }
        }
        int all = (1 << domain.ruleCount) - 1;
        return all & ~deciding;
    }

    public int lookups(int name, int letter, int n, int what) {
        if (!isKnown(name) || !isLetter(letter) || what < 0 || what > 1 || (what == 0 && n < 0)) {
            return BAD;
        }
        int sum = 0;
        for (int address = 0; address < ADDRESSES; address++) {
            evaluator.evaluate(present, name, address, letter);
            sum += evaluator.lookupCount;
        }
        if (what == 1) {
            return floatBitsOfMean(sum);
        }
        long product = (long) n * sum;
        return product > GREATEST ? FULL : (int) product;
    }

    public int leads(int name) {
        if (!isKnown(name)) {
            return BAD;
        }
        int reached = present.directlyLedTo(name);
        // A name is reached in at most as many steps as there are names.
        for (int step = 1; step < MAX_NAMES; step++) {
            int further = reached;
            for (int k = 0; k < present.size; k++) {
                if ((reached & (1 << k)) != 0) {
                    further |= present.directlyLedTo(k);
                }
            }
            reached = further;
        }
        return reached;
    }

    public int count(int what) {
        switch (what) {
            case 0:
                return present.size;
            case 1:
                return present.policies();
            case 2:
                return present.rules();
            case 3:
                return present.hosts();
            case 4:
                return keptChecks.size;
            case 5:
                return history.size;
            case 6:
                return reader.length;
            default:
                return BAD;
        }
    }

    private boolean isKnown(int name) {
        return name >= 0 && name < present.size;
    }

    private static boolean isAddress(int address) {
        return address >= 0 && address < ADDRESSES;
    }

    private static boolean isLetter(int letter) {
        return letter >= 0 && letter < LETTERS;
    }

    private Rule ruleAt(int name, int rule) {
        Domain domain = present.domainAt(name);
        return domain == null ? null : domain.ruleAt(rule);
    }

    private int numberOrNone(int code) {
        int number = present.find(code);
        return number == UNKNOWN ? NONE : number;
    }

    private void noteChange(int kind, int name, int place, int value) {
        Change change = history.add();
        change.kind = kind;
        change.name = name;
        change.place = place;
        change.value = value;
        keptChecks.clear();
    }

    private void takeBack(Change change) {
        Domain domain = present.domainAt(change.name);
        if (domain == null) {
            return;
        }
        switch (change.kind) {
            case SIGN_CHANGE:
                Rule rule = domain.ruleAt(change.place);
                if (rule != null) {
                    rule.sign = change.value;
                }
                break;
            case SWAP_CHANGE:
                domain.swapRules(change.place);
                break;
            case ADD_CHANGE:
                domain.removeHost(change.place);
                break;
            default:
                domain.insertHost(change.place, change.value);
                break;
        }
    }

    /** The library's function for this is outside LANGUAGE.md; the mean is exact, as the sum has at most 12 bits. */
    private static int floatBitsOfMean(int sum) {
        if (sum <= 0) {
            return 0;
        }
        int top = 31 - Integer.numberOfLeadingZeros(sum);
        int exponent = 127 + top - BITS;
        int fraction = (sum - (1 << top)) << (23 - top);
        return (exponent << 23) | fraction;
    }

    /** Makes the code of a name from its letters, the last one first, so that codes have the order of the names. */
    private static final class NameMaker {
        private int code;
        private int length;

        void clear() {
            code = 0;
            length = 0;
        }

        /** Letters beyond the seventh from the end are not part of the name. */
        void putBefore(int letter) {
            if (length < MAX_LENGTH) {
                code = code * DIGIT_VALUES + letter + 1;
                length++;
            }
        }

        int finished() {
            int whole = code;
            for (int k = length; k < MAX_LENGTH; k++) {
                whole *= DIGIT_VALUES;
            }
            return whole;
        }
    }

    private static final class Rule {
        private int sign;
        private int kind;
        private int address;
        private int bits;
        private int target;
        private final int[] parts = new int[MAX_PARTS];
        private int partCount;

        void start(int newSign, int newKind) {
            sign = newSign;
            kind = newKind;
            address = 0;
            bits = 0;
            target = NO_NAME;
            partCount = 0;
        }

        boolean hasPrefixOf(int other) {
            return (address ^ other) >> (BITS - bits) == 0;
        }
    }

    /** A known name with its records. */
    private static final class Domain {
        private int code;
        private final int[] fromEnd = new int[MAX_LENGTH];
        private int length;
        private boolean hasPolicy;
        private final Rule[] rules = new Rule[MAX_RULES];
        private int ruleCount;
        private int redirect;
        private final int[] hosts = new int[MAX_HOSTS];
        private int hostCount;
        private final int[] exchangers = new int[MAX_EXCHANGERS];
        private int exchangerCount;

        Domain() {
            for (int k = 0; k < MAX_RULES; k++) {
                rules[k] = new Rule();
            }
        }

        void start(int newCode) {
            code = newCode;
            length = 0;
            int rest = newCode;
            for (int k = MAX_LENGTH - 1; k >= 0; k--) {
                int digit = rest % DIGIT_VALUES;
                rest /= DIGIT_VALUES;
                fromEnd[k] = digit - 1;
                if (digit > 0) {
                    length++;
                }
            }
            hasPolicy = false;
            ruleCount = 0;
            redirect = NO_NAME;
            hostCount = 0;
            exchangerCount = 0;
        }

        void startPolicy() {
            hasPolicy = true;
            ruleCount = 0;
            redirect = NO_NAME;
        }

        Rule addRule() {
            if (ruleCount >= MAX_RULES) {
                return null;
            }
            ruleCount++;
            return rules[ruleCount - 1];
        }

        Rule ruleAt(int rule) {
            return rule >= 0 && rule < ruleCount ? rules[rule] : null;
        }

        boolean swapRules(int rule) {
            if (rule < 0 || rule >= ruleCount - 1) {
                return false;
            }
            Rule first = rules[rule];
            rules[rule] = rules[rule + 1];
            rules[rule + 1] = first;
            return true;
        }

        int placeOfHost(int address) {
            for (int k = 0; k < hostCount; k++) {
                if (hosts[k] == address) {
                    return k;
                }
            }
            return UNKNOWN;
        }

        boolean insertHost(int place, int address) {
            if (hostCount >= MAX_HOSTS || place < 0 || place > hostCount) {
                return false;
            }
            for (int k = hostCount; k > place; k--) {
                hosts[k] = hosts[k - 1];
            }
            hosts[place] = address;
            hostCount++;
            return true;
        }

        void removeHost(int place) {
            if (place < 0 || place >= hostCount) {
                return;
            }
            for (int k = place; k < hostCount - 1; k++) {
                hosts[k] = hosts[k + 1];
            }
            hostCount--;
        }

        boolean addExchanger(int name) {
            if (exchangerCount >= MAX_EXCHANGERS) {
                return false;
            }
            exchangers[exchangerCount] = name;
            exchangerCount++;
            return true;
        }
    }

    /** The known names in their order. */
    private static final class Records {
        private final Domain[] domains = new Domain[MAX_NAMES];
        private int size;

        Records() {
            for (int k = 0; k < MAX_NAMES; k++) {
                domains[k] = new Domain();
            }
        }

        void clear() {
            size = 0;
        }

        Domain domainAt(int number) {
            return number >= 0 && number < size ? domains[number] : null;
        }

        int firstNotBefore(int code) {
            int place = 0;
            while (place < size && domains[place].code < code) {
                place++;
            }
            return place;
        }

        int find(int code) {
            for (int k = 0; k < size; k++) {
                if (domains[k].code == code) {
                    return k;
                }
            }
            return UNKNOWN;
        }

        Domain domainOf(int code) {
            return domainAt(find(code));
        }

        /** Gives null if one more name would be too many. */
        Domain findOrAdd(int code) {
            Domain known = domainOf(code);
            if (known != null || size >= MAX_NAMES) {
                return known;
            }
            int place = firstNotBefore(code);
            Domain unused = domains[size];
            for (int k = size; k > place; k--) {
                domains[k] = domains[k - 1];
            }
            domains[place] = unused;
            size++;
            unused.start(code);
            return unused;
        }

        int policies() {
            int sum = 0;
            for (int k = 0; k < size; k++) {
                sum += domains[k].hasPolicy ? 1 : 0;
            }
            return sum;
        }

        int rules() {
            int sum = 0;
            for (int k = 0; k < size; k++) {
                sum += domains[k].ruleCount;
            }
            return sum;
        }

        int hosts() {
            int sum = 0;
            for (int k = 0; k < size; k++) {
                sum += domains[k].hostCount;
            }
            return sum;
        }

        int directlyLedTo(int number) {
            Domain domain = domainAt(number);
            if (domain == null) {
                return 0;
            }
            int set = bitIfPolicy(domain.redirect);
            for (int k = 0; k < domain.ruleCount; k++) {
                if (domain.rules[k].kind == INCLUDE) {
                    set |= bitIfPolicy(domain.rules[k].target);
                }
            }
            return set;
        }

        private int bitIfPolicy(int code) {
            int number = find(code);
            return number != UNKNOWN && domains[number].hasPolicy ? 1 << number : 0;
        }
    }

    /** Holds the text and reads it into records; what reads a piece of it leaves the place behind this piece. */
    private static final class Reader {
        private final char[] text = new char[MAX_TEXT];
        private int length;
        private int at;
        private final NameMaker maker = new NameMaker();

        boolean append(char added) {
            if (length >= MAX_TEXT) {
                return false;
            }
            text[length] = added;
            length++;
            return true;
        }

        void empty() {
            length = 0;
        }

        /** Returns the error of the text, or NONE; with an error the records are of no use. */
        int readAll(Records into) {
            at = 0;
            into.clear();
            for (int items = 0; items < MAX_TEXT && at < length; items++) {
                int first = at;
                if (!readItem(into)) {
                    return first;
                }
            }
            return NONE;
        }

        int readWholeAsName() {
            at = 0;
            int code = readName();
            return at == length ? code : NO_NAME;
        }

        private char peek() {
            return at < length ? text[at] : (char) 0;
        }

        private char next() {
            if (at >= length) {
                return (char) 0;
            }
            at++;
            return text[at - 1];
        }

        private boolean take(char wanted) {
            if (at >= length || text[at] != wanted) {
                return false;
            }
            at++;
            return true;
        }

        private boolean readItem(Records into) {
            int sort = next();
            int code = readName();
            if (code == NO_NAME || !take(':')) {
                return false;
            }
            Domain domain = into.findOrAdd(code);
            if (domain == null) {
                return false;
            }
            switch (sort) {
                case 'n':
                    return readPolicy(domain) && take(';');
                case 'a':
                    return readHosts(domain) && take(';');
                case 'x':
                    return readExchangers(domain) && take(';');
                default:
                    return false;
            }
        }

        private boolean readPolicy(Domain domain) {
            domain.startPolicy();
            for (int k = 0; k <= MAX_RULES; k++) {
                if (k > 0 && take('r')) {
                    domain.redirect = readName();
                    return domain.redirect != NO_NAME;
                }
                Rule rule = domain.addRule();
                if (rule == null || !readRule(rule)) {
                    return false;
                }
                if (!take(',')) {
                    return true;
                }
            }
            return false;
        }

        private boolean readHosts(Domain domain) {
            domain.hostCount = 0;
            for (int k = 0; k < MAX_HOSTS; k++) {
                int address = readNumber(ADDRESSES - 1);
                if (address < 0 || !domain.insertHost(k, address)) {
                    return false;
                }
                if (!take(',')) {
                    return true;
                }
            }
            return false;
        }

        private boolean readExchangers(Domain domain) {
            domain.exchangerCount = 0;
            for (int k = 0; k < MAX_EXCHANGERS; k++) {
                int code = readName();
                if (code == NO_NAME || !domain.addExchanger(code)) {
                    return false;
                }
                if (!take(',')) {
                    return true;
                }
            }
            return false;
        }

        private boolean readRule(Rule rule) {
            int sign = SIGNS.indexOf(next());
            int kind = KINDS.indexOf(next());
            if (sign < 0) {
                return false;
            }
            rule.start(sign, kind);
            switch (kind) {
                case ALL:
                    return true;
                case PREFIX:
                    return readPrefix(rule);
                case INCLUDE:
                case HOST:
                case MAIL:
                    rule.target = readName();
                    return rule.target != NO_NAME;
                case EXISTS:
                    return readMacro(rule);
                default:
                    return false;
            }
        }

        private boolean readPrefix(Rule rule) {
            rule.address = readNumber(ADDRESSES - 1);
            if (rule.address < 0 || !take('/')) {
                return false;
            }
            rule.bits = readNumber(BITS);
            return rule.bits >= 0;
        }

        private boolean readMacro(Rule rule) {
            for (int k = 0; k < MAX_PARTS; k++) {
                char first = peek();
                if (first != '%' && (first < 'a' || first > 'p')) {
                    break;
                }
                int part = readPart();
                if (part < 0) {
                    return false;
                }
                rule.parts[k] = part;
                rule.partCount = k + 1;
            }
            return rule.partCount > 0;
        }

        /** Returns the source of the part times 16, plus its digit times 2, plus 1 if it is reversed; or -1. */
        private int readPart() {
            char first = next();
            if (first != '%') {
                return (first - 'a') << 4;
            }
            int reversed = take('-') ? 1 : 0;
            int last = 0;
            if (peek() >= '1' && peek() <= '7') {
                last = next() - '0';
            }
            int source = SOURCES.indexOf(next());
            return source < 0 ? -1 : (FROM_DOMAIN + source) << 4 | last << 1 | reversed;
        }

        private int readName() {
            int first = at;
            for (int k = 0; k < MAX_LENGTH && peek() >= 'a' && peek() <= 'p'; k++) {
                at++;
            }
            maker.clear();
            for (int k = at - 1; k >= first; k--) {
                maker.putBefore(text[k] - 'a');
            }
            return maker.finished();
        }

        private int readNumber(int most) {
            int value = 0;
            int digits = 0;
            while (digits < MAX_DIGITS && peek() >= '0' && peek() <= '9') {
                value = value * 10 + next() - '0';
                digits++;
            }
            return digits == 0 || value > most ? -1 : value;
        }
    }

    /** Makes one check at a time and holds what it found. */
    private static final class Evaluator {
        private Records records;
        private Domain origin;
        private int address;
        private int letter;
        private int lookupCount;
        private int emptyCount;
        private boolean ended;
        private int decidingName;
        private int decidingRule;
        private final NameMaker maker = new NameMaker();

        int evaluate(Records among, int name, int forAddress, int forLetter) {
            records = among;
            origin = among.domainAt(name);
            address = forAddress;
            letter = forLetter;
            lookupCount = 0;
            emptyCount = 0;
            ended = false;
            decidingName = NONE;
            decidingRule = NONE;
            return resultOf(name, 0);
        }

        /** The depth is the number of includes that lead here; each of them is a lookup. */
        private int resultOf(int name, int depth) {
            int at = depth > MAX_LOOKUPS ? UNKNOWN : name;
            for (int redirects = 0; redirects <= MAX_LOOKUPS; redirects++) {
                Domain domain = records.domainAt(at);
                if (domain == null || !domain.hasPolicy) {
                    return redirects == 0 ? RESULT_NONE : endWithError();
                }
                for (int k = 0; k < domain.ruleCount && !ended; k++) {
                    if (matches(domain.rules[k], domain, depth)) {
                        return decide(at, k, depth);
                    }
                }
                if (ended) {
                    return RESULT_ERROR;
                }
                if (domain.redirect == NO_NAME) {
                    return RESULT_NEUTRAL;
                }
                if (!lookUp()) {
                    return RESULT_ERROR;
                }
                at = records.find(domain.redirect);
            }
            return endWithError();
        }

        private int decide(int name, int rule, int depth) {
            if (depth == 0) {
                decidingName = name;
                decidingRule = rule;
            }
            Domain domain = records.domainAt(name);
            Rule decider = domain == null ? null : domain.ruleAt(rule);
            return decider == null ? RESULT_ERROR : resultOfSign(decider.sign);
        }

        private static int resultOfSign(int sign) {
            switch (sign) {
                case 0:
                    return RESULT_PASS;
                case 1:
                    return RESULT_FAIL;
                case 2:
                    return RESULT_SOFT;
                default:
                    return RESULT_NEUTRAL;
            }
        }

        private int endWithError() {
            ended = true;
            return RESULT_ERROR;
        }

        /** Returns whether the check goes on. */
        private boolean lookUp() {
            lookupCount++;
            if (lookupCount > MAX_LOOKUPS) {
                ended = true;
            }
            return !ended;
        }

        private void findEmpty() {
            emptyCount++;
            if (emptyCount > MAX_EMPTY) {
                ended = true;
            }
        }

        private boolean matches(Rule rule, Domain domain, int depth) {
            if (rule.kind == ALL) {
                return true;
            }
            if (rule.kind == PREFIX) {
                return rule.hasPrefixOf(address);
            }
            if (!lookUp()) {
                return false;
            }
            switch (rule.kind) {
                case INCLUDE:
                    return includeMatches(rule, depth);
                case HOST:
                    return hostMatches(rule);
                case MAIL:
                    return mailMatches(rule);
                default:
                    return existsMatches(rule, domain);
            }
        }

        private boolean includeMatches(Rule rule, int depth) {
            int result = resultOf(records.find(rule.target), depth + 1);
            if (result == RESULT_NONE) {
                ended = true;
            }
            return !ended && result == RESULT_PASS;
        }

        private boolean hostMatches(Rule rule) {
            Domain domain = records.domainOf(rule.target);
            if (domain == null || domain.hostCount == 0) {
                findEmpty();
                return false;
            }
            return domain.placeOfHost(address) != UNKNOWN;
        }

        private boolean mailMatches(Rule rule) {
            Domain domain = records.domainOf(rule.target);
            if (domain == null || domain.exchangerCount == 0) {
                findEmpty();
                return false;
            }
            for (int k = 0; k < domain.exchangerCount; k++) {
                Domain exchanger = records.domainOf(domain.exchangers[k]);
                if (exchanger != null && exchanger.placeOfHost(address) != UNKNOWN) {
                    return true;
                }
            }
            return false;
        }

        private boolean existsMatches(Rule rule, Domain domain) {
            maker.clear();
            for (int k = rule.partCount - 1; k >= 0; k--) {
                putPart(rule.parts[k], domain);
            }
            Domain found = records.domainOf(maker.finished());
            if (found == null || found.hostCount == 0) {
                findEmpty();
                return false;
            }
            return true;
        }

        private void putPart(int part, Domain domain) {
            int source = part >> 4;
            int last = (part >> 1) & 7;
            boolean reversed = (part & 1) == 1;
            int size = sizeOf(source, domain);
            int used = last == 0 ? size : Math.min(last, size);
            for (int k = 0; k < used; k++) {
                maker.putBefore(fromEndOf(source, domain, reversed ? size - 1 - k : k));
            }
        }

        private int sizeOf(int source, Domain domain) {
            switch (source) {
                case FROM_DOMAIN:
                    return domain.length;
                case FROM_ORIGIN:
                    return origin == null ? 0 : origin.length;
                case FROM_ADDRESS:
                    return ADDRESS_LENGTH;
                default:
                    return 1;
            }
        }

        private int fromEndOf(int source, Domain domain, int k) {
            switch (source) {
                case FROM_DOMAIN:
                    return k < domain.length ? domain.fromEnd[k] : 0;
                case FROM_ORIGIN:
                    return origin != null && k < origin.length ? origin.fromEnd[k] : 0;
                case FROM_ADDRESS:
                    return (address >> (2 * k)) & 3;
                case FROM_LETTER:
                    return letter;
                default:
                    return source;
            }
        }
    }

    /** The values of one check, in the order in which kept() tells them. */
    private static final class KeptCheck {
        private final int[] values = new int[KEPT_VALUES];

        boolean isOf(int name, int address, int letter) {
            return values[0] == name && values[1] == address && values[2] == letter;
        }
    }

    /** The latest checks, the latest one first. */
    private static final class KeptChecks {
        private final KeptCheck[] checks = new KeptCheck[MAX_KEPT];
        private int size;

        KeptChecks() {
            for (int k = 0; k < MAX_KEPT; k++) {
                checks[k] = new KeptCheck();
            }
        }

        void clear() {
            size = 0;
        }

        int valueOf(int k, int what) {
            return k >= 0 && k < size && what >= 0 && what < KEPT_VALUES ? checks[k].values[what] : NONE;
        }

        void keep(Evaluator made, int name, int result) {
            int[] values = placeFor(name, made.address, made.letter).values;
            values[0] = name;
            values[1] = made.address;
            values[2] = made.letter;
            values[3] = result;
            values[4] = made.lookupCount;
            values[5] = made.emptyCount;
            values[6] = made.decidingName;
            values[7] = made.decidingRule;
        }

        /** The place of the same check, or an unused one, or that of the oldest check becomes the first one. */
        private KeptCheck placeFor(int name, int address, int letter) {
            int place = 0;
            while (place < size && !checks[place].isOf(name, address, letter)) {
                place++;
            }
            if (place == size && size < MAX_KEPT) {
                size++;
            }
            place = Math.min(place, MAX_KEPT - 1);
            KeptCheck taken = checks[place];
            for (int k = place; k > 0; k--) {
                checks[k] = checks[k - 1];
            }
            checks[0] = taken;
            return taken;
        }
    }

    /** What is needed to undo a change: the value is the former sign, or the address of the host. */
    private static final class Change {
        private int kind;
        private int name;
        private int place;
        private int value;
    }

    /** The changes that can be undone, the latest one last. */
    private static final class History {
        private final Change[] changes = new Change[MAX_CHANGES];
        private int size;

        History() {
            for (int k = 0; k < MAX_CHANGES; k++) {
                changes[k] = new Change();
            }
        }

        void clear() {
            size = 0;
        }

        Change add() {
            if (size < MAX_CHANGES) {
                size++;
                return changes[size - 1];
            }
            Change oldest = changes[0];
            for (int k = 0; k < MAX_CHANGES - 1; k++) {
                changes[k] = changes[k + 1];
            }
            changes[MAX_CHANGES - 1] = oldest;
            return oldest;
        }

        Change takeLatest() {
            if (size == 0) {
                return null;
            }
            size--;
            return changes[size];
        }
    }
}
