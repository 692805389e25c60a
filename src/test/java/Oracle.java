import java.util.ArrayList;
import java.util.Arrays;
import java.util.HashMap;
import java.util.HashSet;
import java.util.LinkedHashSet;
import java.util.List;
import java.util.Map;
import java.util.NoSuchElementException;

/**
 * The document once more, told as directly as it can be and by other ways than those of SecondHas (an Earley
 * recogniser, texts cut at their signs, whole histories, plain recursion), so that both can be held against each other.
 */
final class Oracle {
    static final int NONE = -1;
    static final int HIDDEN = -1000000;

    private String tape = "";
    private List<int[]> strivers = new ArrayList<>();
    private int[] law = {2, 0, 0, 0, 5};
    private int[] ruleOf = new int[0];
    private final List<String> rules = new ArrayList<>();
    private List<Integer> book = new ArrayList<>();
    private Object[] image;

    // ---- tape and texts

    int feed(int a, int b, int c, int d, int e) {
        StringBuilder more = new StringBuilder(tape);
        for (int number : new int[] {a, b, c, d, e}) {
            for (byte one : java.nio.ByteBuffer.allocate(4).putInt(number).array()) {
                if (one != 0) {
                    more.append((char) (one & 255));
                }
            }
        }
        if (more.length() > 160) {
            return NONE;
        }
        tape = more.toString();
        return tape.length();
    }

    boolean end(int n) {
        if (n < 0 || n > tape.length()) {
            return false;
        }
        tape = tape.substring(0, n);
        return true;
    }

    int fault(int sort) {
        return sort == 0 ? landFault(tape, null, null) : sort == 1 ? ruleFault(tape) : -2;
    }

    int text(int sort) {
        if (sort == 0) {
            List<int[]> told = new ArrayList<>();
            int[] lawTold = {2, 0, 0, 0, 5};
            if (landFault(tape, told, lawTold) != NONE) {
                return NONE;
            }
            strivers = told;
            law = lawTold;
            ruleOf = new int[told.size()];
            Arrays.fill(ruleOf, NONE);
            book = new ArrayList<>();
            image = null;
            tape = "";
            return told.size();
        }
        if (sort != 1 || rules.size() == 4 || ruleFault(tape) != NONE) {
            return NONE;
        }
        rules.add(tape.replace(" ", ""));
        tape = "";
        return rules.size() - 1;
    }

    /** An automaton that goes byte by byte, with one byte behind the end. */
    private static int landFault(String text, List<int[]> told, int[] lawTold) {
        List<int[]> found = told == null ? new ArrayList<>() : told;
        int[] lawFound = lawTold == null ? new int[5] : lawTold;
        boolean lawSeen = false;
        int[] into = null;
        String letters = "";
        String had = "";
        int item = -1;
        String number = "";
        int lastDigit = -1;
        String state = "clause";
        for (int at = 0; at <= text.length(); at++) {
            char c = at < text.length() ? text.charAt(at) : '\0';
            boolean digit = c >= '0' && c <= '9';
            if (state.equals("digits") && !digit) {
                int value = Integer.parseInt(number);
                int[] bounds = bounds(letters.charAt(item));
                if (value < bounds[0] || value > bounds[1]) {
                    return lastDigit;
                }
                into[item] = value;
                state = "items";
            }
            if (c == ' ') {
                continue;
            }
            switch (state) {
                case "clause":
                    if (c == 's' && found.size() < 6) {
                        into = new int[] {3, 10, 0, 0};
                        found.add(into);
                        letters = "pwkb";
                    } else if (c == 'l' && !lawSeen) {
                        lawSeen = true;
                        into = lawFound;
                        letters = "rtqfm";
                    } else {
                        return at;
                    }
                    had = "";
                    state = "items";
                    break;
                case "items":
                    if (c == ';') {
                        state = "clause";
                    } else if (c == '\0') {
                        state = "over";
                    } else if (letters.indexOf(c) >= 0 && had.indexOf(c) < 0) {
                        item = letters.indexOf(c);
                        had += c;
                        number = "";
                        state = "number";
                    } else {
                        return at;
                    }
                    break;
                default:
                    if (!digit || number.length() == 2) {
                        return at;
                    }
                    number += c;
                    lastDigit = at;
                    state = "digits";
            }
        }
        return found.size() < 2 ? text.length() : NONE;
    }

    private static int[] bounds(char letter) {
        switch (letter) {
            case 'p': return new int[] {1, 9};
            case 'k': return new int[] {0, 4};
            case 'r': return new int[] {1, 6};
            case 't': return new int[] {0, 1};
            case 'q': return new int[] {0, 2};
            case 'w': case 'f': return new int[] {0, 99};
            default: return new int[] {0, 9};
        }
    }

    /** The grammar of RULES; D is a digit that begins a number, E one that goes on with it. Names hold how deep. */
    private static final Map<String, List<String[]>> GRAMMAR = grammar();

    private static void production(Map<String, List<String[]>> all, String name, String... parts) {
        all.computeIfAbsent(name, k -> new ArrayList<>()).add(parts);
    }

    private static Map<String, List<String[]>> grammar() {
        Map<String, List<String[]>> all = new HashMap<>();
        production(all, "RULE", "CLAUSE");
        production(all, "RULE", "RULE", ";", "CLAUSE");
        production(all, "CLAUSE", "y", ":", "SUM0");
        production(all, "CLAUSE", "y", ":", "COND0", "?", "SUM0");
        for (int k = 0; k <= 6; k++) {
            production(all, "COND" + k, "TRUTH" + k);
            production(all, "COND" + k, "COND" + k, "|", "TRUTH" + k);
            production(all, "TRUTH" + k, "UNIT" + k);
            production(all, "TRUTH" + k, "TRUTH" + k, "&", "UNIT" + k);
            for (String sign : new String[] {"=", "<", ">"}) {
                production(all, "UNIT" + k, "SUM" + k, sign, "SUM" + k);
            }
            production(all, "SUM" + k, "TERM" + k);
            production(all, "SUM" + k, "SUM" + k, "+", "TERM" + k);
            production(all, "SUM" + k, "SUM" + k, "-", "TERM" + k);
            production(all, "TERM" + k, "ATOM" + k);
            production(all, "TERM" + k, "TERM" + k, "*", "ATOM" + k);
            production(all, "TERM" + k, "TERM" + k, "/", "ATOM" + k);
            production(all, "ATOM" + k, "NUMBER");
            for (String letter : "d a b o l t".split(" ")) {
                production(all, "ATOM" + k, letter);
            }
            if (k < 6) {
                production(all, "UNIT" + k, "!", "UNIT" + (k + 1));
                production(all, "UNIT" + k, "(", "COND" + (k + 1), ")");
                production(all, "ATOM" + k, "[", "SUM" + (k + 1), "]");
            }
        }
        production(all, "NUMBER", "D");
        production(all, "NUMBER", "D", "E");
        production(all, "NUMBER", "D", "E", "E");
        production(all, "NUMBER", "D", "E", "E", "E");
        return all;
    }

    /** An item of Earley's sets: a production, how far it has come, where it began. */
    private record Item(String name, String[] parts, int dot, int from) {
        String next() {
            return dot < parts.length ? parts[dot] : null;
        }

        Item moved() {
            return new Item(name, parts, dot + 1, from);
        }
    }

    private static int ruleFault(String text) {
        List<String> signs = new ArrayList<>();
        List<Integer> places = new ArrayList<>();
        for (int at = 0; at < text.length(); at++) {
            char c = text.charAt(at);
            boolean goesOn = at > 0 && Character.isDigit(text.charAt(at - 1));
            if (c != ' ') {
                boolean digit = c >= '0' && c <= '9';
                signs.add(digit ? goesOn ? "E" : "D" : c == 'D' || c == 'E' ? "#" : String.valueOf(c));
                places.add(at);
            }
        }
        List<LinkedHashSet<Item>> sets = new ArrayList<>();
        LinkedHashSet<Item> set = new LinkedHashSet<>();
        for (String[] parts : GRAMMAR.get("RULE")) {
            set.add(new Item("RULE", parts, 0, 0));
        }
        for (int i = 0; i <= signs.size(); i++) {
            sets.add(set);
            close(sets, set, i);
            if (i == signs.size()) {
                break;
            }
            LinkedHashSet<Item> then = new LinkedHashSet<>();
            for (Item item : set) {
                if (signs.get(i).equals(item.next())) {
                    then.add(item.moved());
                }
            }
            if (then.isEmpty()) {
                return places.get(i);
            }
            set = then;
        }
        for (Item item : set) {
            if (item.name().equals("RULE") && item.from() == 0 && item.next() == null) {
                return NONE;
            }
        }
        return text.length();
    }

    private static void close(List<LinkedHashSet<Item>> sets, LinkedHashSet<Item> set, int at) {
        List<Item> todo = new ArrayList<>(set);
        HashSet<String> told = new HashSet<>();
        for (int i = 0; i < todo.size(); i++) {
            Item item = todo.get(i);
            List<Item> more = new ArrayList<>();
            if (item.next() == null) {
                for (Item waiting : new ArrayList<>(sets.get(item.from()))) {
                    if (item.name().equals(waiting.next())) {
                        more.add(waiting.moved());
                    }
                }
            } else if (GRAMMAR.containsKey(item.next()) && told.add(item.next())) {
                for (String[] parts : GRAMMAR.get(item.next())) {
                    more.add(new Item(item.next(), parts, 0, at));
                }
            }
            for (Item one : more) {
                if (set.add(one)) {
                    todo.add(one);
                }
            }
        }
    }

    // ---- what a rule is worth: texts cut at the last sign that binds least

    private static int worth(String rule, Map<Character, Integer> letters) {
        for (String clause : rule.split(";")) {
            String body = clause.substring(2);
            int mark = body.indexOf('?');
            if (mark < 0) {
                return sumOf(body, letters);
            }
            if (holds(body.substring(0, mark), letters)) {
                return sumOf(body.substring(mark + 1), letters);
            }
        }
        return 0;
    }

    private static int lastOutside(String text, String signs) {
        int depth = 0;
        for (int at = text.length() - 1; at >= 0; at--) {
            char c = text.charAt(at);
            depth += c == ')' || c == ']' ? 1 : c == '(' || c == '[' ? -1 : 0;
            if (depth == 0 && signs.indexOf(c) >= 0) {
                return at;
            }
        }
        return -1;
    }

    private static boolean holds(String text, Map<Character, Integer> letters) {
        int or = lastOutside(text, "|");
        if (or >= 0) {
            boolean left = holds(text.substring(0, or), letters);
            return holds(text.substring(or + 1), letters) || left;
        }
        int and = lastOutside(text, "&");
        if (and >= 0) {
            boolean left = holds(text.substring(0, and), letters);
            return holds(text.substring(and + 1), letters) && left;
        }
        if (text.startsWith("!")) {
            return !holds(text.substring(1), letters);
        }
        if (text.startsWith("(")) {
            return holds(text.substring(1, text.length() - 1), letters);
        }
        int at = lastOutside(text, "=<>");
        int left = sumOf(text.substring(0, at), letters);
        int right = sumOf(text.substring(at + 1), letters);
        char sign = text.charAt(at);
        return sign == '=' ? left == right : sign == '<' ? left < right : left > right;
    }

    private static int sumOf(String text, Map<Character, Integer> letters) {
        int at = lastOutside(text, "+-");
        if (at < 0) {
            at = lastOutside(text, "*/");
        }
        if (at < 0) {
            if (text.startsWith("[")) {
                return sumOf(text.substring(1, text.length() - 1), letters);
            }
            Integer letter = letters.get(text.charAt(0));
            return letter != null ? letter : Integer.parseInt(text);
        }
        long left = sumOf(text.substring(0, at), letters);
        long right = sumOf(text.substring(at + 1), letters);
        char sign = text.charAt(at);
        long value = sign == '+' ? left + right : sign == '-' ? left - right : sign == '*' ? left * right
                : right == 0 ? 0 : left / right;
        return (int) (value > 1000000 ? 1000000 : value < -1000000 ? -1000000 : value);
    }

    // ---- the land

    private int n() {
        return strivers.size();
    }

    private boolean is(int striver) {
        return striver >= 0 && striver < n();
    }

    int striver(int striver, int what) {
        if (!is(striver) || what < 0 || what > 4) {
            throw new NoSuchElementException();
        }
        return what == 4 ? ruleOf[striver] : strivers.get(striver)[what];
    }

    int law(int what) {
        return n() == 0 || what < 0 || what > 4 ? NONE : law[what];
    }

    boolean change(int what, int v) {
        if (n() == 0 || what < 0 || what > 4) {
            return false;
        }
        int[] bounds = bounds("rtqfm".charAt(what));
        if (v < bounds[0] || v > bounds[1]) {
            return false;
        }
        law[what] = v;
        return true;
    }

    boolean rule(int striver, int rule) {
        if (!is(striver) || rule < -1 || rule >= rules.size()) {
            return false;
        }
        ruleOf[striver] = rule;
        return true;
    }

    // ---- races

    private static final class History {
        int[][] where;
        int[] came;
        int last;
    }

    private History history(int track, int dusk, int[] by) {
        History h = new History();
        h.where = new int[dusk + 1][n()];
        h.came = new int[n()];
        Arrays.fill(h.came, NONE);
        h.last = NONE;
        for (int t = 0; t < dusk; t++) {
            h.where[t + 1] = h.where[t].clone();
            int in = 0;
            for (int i = 0; i < n(); i++) {
                in += h.where[t][i] == track ? 1 : 0;
            }
            if (in == n()) {
                continue;
            }
            h.last = t;
            for (int i = 0; i < n(); i++) {
                int mine = h.where[t][i];
                if (mine == track || by[i] == NONE) {
                    continue;
                }
                int[] there = h.where[t];
                Map<Character, Integer> letters = new HashMap<>();
                letters.put('d', track - mine);
                letters.put('a', (int) Arrays.stream(there).filter(x -> x > mine).count());
                letters.put('b', (int) Arrays.stream(there).filter(x -> x < mine).count());
                letters.put('o', in);
                letters.put('l', dusk - t);
                letters.put('t', t);
                int steps = Math.min(strivers.get(i)[0], Math.max(0, worth(rules.get(by[i]), letters)));
                h.where[t + 1][i] = Math.min(track, mine + steps);
                if (h.where[t + 1][i] == track) {
                    h.came[i] = t;
                }
            }
        }
        return h;
    }

    private boolean raceAhead(History h, int j, int i) {
        return h.came[j] != NONE && (h.came[j] < h.came[i] || (h.came[j] == h.came[i] && law[1] == 0 && j < i));
    }

    private int medalIn(History h, int i) {
        if (h.came[i] == NONE) {
            return 0;
        }
        int place = 1;
        for (int j = 0; j < n(); j++) {
            place += raceAhead(h, j, i) ? 1 : 0;
        }
        return place;
    }

    private int holderIn(History h) {
        for (int i = 0; i < n(); i++) {
            boolean alone = true;
            for (int j = 0; j < n(); j++) {
                alone &= j == i || h.came[j] != h.came[i];
            }
            if (medalIn(h, i) == law[0] && (law[1] == 0 || alone)) {
                return i;
            }
        }
        return NONE;
    }

    private boolean out(int track, int dusk) {
        return n() == 0 || track < 1 || track > 99 || dusk < 1 || dusk > 99;
    }

    int race(int track, int dusk, int what) {
        if (out(track, dusk) || what < 0 || what > 2) {
            return HIDDEN;
        }
        History h = history(track, dusk, ruleOf);
        return what == 0 ? holderIn(h) : what == 1 ? (int) Arrays.stream(h.came).filter(x -> x != NONE).count() : h.last;
    }

    int came(int track, int dusk, int striver) {
        return out(track, dusk) || !is(striver) ? HIDDEN : history(track, dusk, ruleOf).came[striver];
    }

    int step(int track, int dusk, int striver, int second) {
        if (out(track, dusk) || !is(striver) || second < 0 || second > dusk) {
            return HIDDEN;
        }
        return history(track, dusk, ruleOf).where[second][striver];
    }

    int without(int track, int dusk, int striver) {
        if (out(track, dusk) || !is(striver)) {
            return HIDDEN;
        }
        int[] by = ruleOf.clone();
        by[striver] = NONE;
        return holderIn(history(track, dusk, by));
    }

    int choice(int track, int dusk, int striver) {
        if (out(track, dusk) || !is(striver)) {
            return HIDDEN;
        }
        for (int rule = 0; rule < rules.size(); rule++) {
            int[] by = ruleOf.clone();
            by[striver] = rule;
            if (holderIn(history(track, dusk, by)) == striver) {
                return rule;
            }
        }
        return NONE;
    }

    int latest(int track) {
        if (out(track, 1)) {
            return HIDDEN;
        }
        for (int dusk = 1; dusk <= 99; dusk++) {
            if (holderIn(history(track, dusk, ruleOf)) != NONE) {
                return dusk;
            }
        }
        return NONE;
    }

    int medal(int track, int dusk, int striver) {
        return out(track, dusk) || !is(striver) ? HIDDEN : medalIn(history(track, dusk, ruleOf), striver);
    }

    // ---- bids

    private int[] digits(int row) {
        String text = String.valueOf(row);
        int[] digits = new int[n()];
        for (int i = 0; i < text.length(); i++) {
            digits[n() - text.length() + i] = text.charAt(i) - '0';
        }
        return digits;
    }

    private int rowOf(int[] bids) {
        int row = 0;
        for (int bid : bids) {
            row = 10 * row + bid;
        }
        return row;
    }

    /** The bids of a row, or null if there is no such one. */
    private int[] taken(int row) {
        if (n() == 0 || row < 0 || String.valueOf(row).length() > n()) {
            return null;
        }
        int[] bids = digits(row);
        for (int bid : bids) {
            if (bid > law[4]) {
                return null;
            }
        }
        return bids;
    }

    private static int aheadByNumber(int[] bids, int i) {
        int ahead = 0;
        for (int j = 0; j < bids.length; j++) {
            ahead += bids[j] > bids[i] || (bids[j] == bids[i] && j < i) ? 1 : 0;
        }
        return ahead;
    }

    private int holder(int[] bids) {
        for (int i = 0; i < bids.length; i++) {
            int more = 0;
            int like = 0;
            for (int j = 0; j < bids.length; j++) {
                more += bids[j] > bids[i] ? 1 : 0;
                like += bids[j] == bids[i] ? 1 : 0;
            }
            boolean has = law[1] == 0 ? aheadByNumber(bids, i) == law[0] - 1 : more == law[0] - 1 && like == 1;
            if (has) {
                return i;
            }
        }
        return NONE;
    }

    private int paid(int[] bids) {
        int has = holder(bids);
        if (has == NONE) {
            return 0;
        }
        int place = aheadByNumber(bids, has);
        int wanted = law[2] == 0 ? place : law[2] == 1 ? place - 1 : place + 1;
        for (int i = 0; i < bids.length; i++) {
            if (aheadByNumber(bids, i) == wanted) {
                return bids[i];
            }
        }
        return law[2] == 1 ? bids[has] : 0;
    }

    private int firsts(int[] bids) {
        int bits = 0;
        for (int i = 0; i < bids.length; i++) {
            boolean top = Arrays.stream(bids).max().getAsInt() == bids[i];
            if (law[1] == 1 ? top : aheadByNumber(bids, i) == 0) {
                bits += 1 << i;
            }
        }
        return bits;
    }

    private int all(int[] bids) {
        return paid(bids) + law[3] * Integer.bitCount(firsts(bids));
    }

    private int gainOf(int[] bids, int i) {
        int won = holder(bids) == i ? strivers.get(i)[1] - paid(bids) : 0;
        return won - ((firsts(bids) & 1 << i) != 0 ? law[3] : 0);
    }

    private static int[] with(int[] bids, int i, int bid) {
        int[] other = bids.clone();
        other[i] = bid;
        return other;
    }

    int bids(int row, int what) {
        int[] bids = taken(row);
        if (bids == null || what < 0 || what > 3) {
            return HIDDEN;
        }
        return what == 0 ? holder(bids) : what == 1 ? paid(bids) : what == 2 ? firsts(bids) : all(bids);
    }

    int gain(int row, int striver) {
        int[] bids = taken(row);
        return bids == null || !is(striver) ? HIDDEN : gainOf(bids, striver);
    }

    /** All rows of which the bids of some are any, and the others' as told; rising. */
    private List<int[]> rows(int[] bids, int some) {
        List<int[]> rows = new ArrayList<>();
        rows.add(bids.clone());
        for (int i = 0; i < n(); i++) {
            if ((some >> i & 1) == 0) {
                continue;
            }
            List<int[]> more = new ArrayList<>();
            for (int[] one : rows) {
                for (int bid = 0; bid <= law[4]; bid++) {
                    more.add(with(one, i, bid));
                }
            }
            rows = more;
        }
        return rows;
    }

    private int everybody() {
        return (1 << n()) - 1;
    }

    private int gainMore(int[] bids, int i) {
        int best = 0;
        for (int bid = 0; bid <= law[4]; bid++) {
            best = Math.max(best, gainOf(with(bids, i, bid), i) - gainOf(bids, i));
        }
        return best;
    }

    private List<int[]> restRows() {
        List<int[]> found = new ArrayList<>();
        for (int[] bids : rows(new int[n()], everybody())) {
            boolean rests = true;
            for (int i = 0; rests && i < n(); i++) {
                rests = gainMore(bids, i) == 0;
            }
            if (rests) {
                found.add(bids);
            }
        }
        return found;
    }

    int rests(int i) {
        if (n() == 0 || n() > 4) {
            return HIDDEN;
        }
        List<int[]> found = restRows();
        return i == NONE ? found.size() : i < 0 || i >= found.size() ? NONE : rowOf(found.get(i));
    }

    int seller(int what) {
        if (n() == 0 || n() > 4 || what < 0 || what > 1) {
            return HIDDEN;
        }
        int[] gets = restRows().stream().mapToInt(this::all).sorted().toArray();
        return gets.length == 0 ? NONE : what == 0 ? gets[0] : gets[gets.length - 1];
    }

    private int[] cureOf(int[] bids, int some) {
        int[] best = {NONE, NONE, 0};
        for (int i = 0; i < n(); i++) {
            for (int bid = 0; (some >> i & 1) != 0 && bid <= law[4]; bid++) {
                int more = gainOf(with(bids, i, bid), i) - gainOf(bids, i);
                if (more > best[2]) {
                    best = new int[] {i, bid, more};
                }
            }
        }
        return best;
    }

    int cure(int row, int what) {
        int[] bids = taken(row);
        return bids == null || what < 0 || what > 2 ? HIDDEN : cureOf(bids, everybody())[what];
    }

    private boolean are(int some) {
        return some > 0 && some <= everybody();
    }

    int firm(int row, int some) {
        int[] bids = taken(row);
        return bids == null || !are(some) ? NONE : cureOf(bids, some)[0] == NONE ? 1 : 0;
    }

    private int sumOfGains(int[] bids, int some) {
        int sum = 0;
        for (int i = 0; i < n(); i++) {
            sum += (some >> i & 1) != 0 ? gainOf(bids, i) : 0;
        }
        return sum;
    }

    private int[] bestTogether(int[] bids, int some) {
        int[] best = null;
        for (int[] one : rows(bids, some)) {
            if (best == null || sumOfGains(one, some) > sumOfGains(best, some)) {
                best = one;
            }
        }
        return best;
    }

    int together(int row, int some, int what) {
        int[] bids = taken(row);
        if (bids == null || !are(some) || Integer.bitCount(some) > 4 || what < 0 || what > 1) {
            return HIDDEN;
        }
        int[] best = bestTogether(bids, some);
        return what == 0 ? sumOfGains(best, some) : rowOf(best);
    }

    int treason(int row, int some) {
        int[] bids = taken(row);
        if (bids == null || !are(some) || Integer.bitCount(some) > 4) {
            return HIDDEN;
        }
        return cureOf(bestTogether(bids, some), some)[0];
    }

    // ---- waiting

    /** What comes of a state: of each who goes the turn, and of each what it has from here on. */
    private static final class Outcome {
        int[] turn;
        int[] has;
        int holder = NONE;
    }

    private Outcome from(int turn, int turns, int gone, int fee, Map<Integer, Outcome> known) {
        if (turn == turns) {
            Outcome end = new Outcome();
            end.turn = new int[n()];
            Arrays.fill(end.turn, NONE);
            end.has = new int[n()];
            return end;
        }
        int key = turn * 64 + gone;
        if (known.containsKey(key)) {
            return known.get(key);
        }
        int i = turn % n();
        Outcome best = from(turn + 1, turns, gone, fee, known);
        if ((gone >> i & 1) == 0) {
            Outcome then = from(turn + 1, turns, gone | 1 << i, fee, known);
            Outcome going = new Outcome();
            going.turn = then.turn.clone();
            going.has = then.has.clone();
            going.holder = then.holder;
            going.turn[i] = turn;
            if (gone == 0) {
                going.has[i] -= fee;
            }
            if (Integer.bitCount(gone) + 1 == law[0]) {
                going.has[i] += strivers.get(i)[1];
                going.holder = i;
            }
            if (going.has[i] > best.has[i]) {
                best = going;
            }
        }
        known.put(key, best);
        return best;
    }

    int waits(int turns, int striver) {
        if (!is(striver) || turns < 1 || turns > 60) {
            return HIDDEN;
        }
        return from(0, turns, 0, law[3], new HashMap<>()).turn[striver];
    }

    int spur(int turns) {
        if (n() == 0 || turns < 1 || turns > 60) {
            return HIDDEN;
        }
        for (int fee = 99; fee >= -99; fee--) {
            if (from(0, turns, 0, fee, new HashMap<>()).holder != NONE) {
                return fee;
            }
        }
        return HIDDEN;
    }

    // ---- rounds

    private int[] roundBehind(int[] ahead) {
        int[] next = new int[n()];
        for (int i = 0; i < n(); i++) {
            switch (strivers.get(i)[2]) {
                case 0:
                    next[i] = Math.min(law[4], strivers.get(i)[3]);
                    break;
                case 1:
                    for (int bid = 0; bid <= law[4]; bid++) {
                        if (gainOf(with(ahead, i, bid), i) > gainOf(with(ahead, i, next[i]), i)) {
                            next[i] = bid;
                        }
                    }
                    break;
                case 2:
                    next[i] = ahead[(i + n() - 1) % n()];
                    break;
                case 3:
                    next[i] = law[4];
                    break;
                default:
                    next[i] = (ahead[i] + law[4]) % (law[4] + 1);
            }
        }
        return next;
    }

    int rounds(int what) {
        if (n() == 0 || what < 0 || what > 2) {
            return HIDDEN;
        }
        int[] now = new int[n()];
        for (int i = 0; i < n(); i++) {
            now[i] = Math.min(law[4], strivers.get(i)[3]);
        }
        Map<Integer, Integer> seen = new HashMap<>();
        List<Integer> rows = new ArrayList<>();
        while (!seen.containsKey(rowOf(now))) {
            seen.put(rowOf(now), rows.size());
            rows.add(rowOf(now));
            now = roundBehind(now);
        }
        int start = seen.get(rowOf(now));
        int ring = rows.size() - start;
        boolean still = ring == 1 && start <= 100;
        if (what == 0) {
            return still ? start : NONE;
        }
        if (what == 2) {
            return ring;
        }
        int at = still ? start : 100;
        return rows.get(at < rows.size() ? at : start + (at - start) % ring);
    }

    // ---- the book

    int honour(int row) {
        if (taken(row) == null || book.size() >= 40) {
            return NONE;
        }
        book.add(row);
        return book.size();
    }

    int years(int n, long seed) {
        if (n() == 0 || n < 1 || n > 40 || book.size() + n > 40) {
            return NONE;
        }
        java.math.BigInteger x = java.math.BigInteger.valueOf(seed);
        java.math.BigInteger times = new java.math.BigInteger("6364136223846793005");
        java.math.BigInteger and = new java.math.BigInteger("1442695040888963407");
        java.math.BigInteger around = java.math.BigInteger.ONE.shiftLeft(64);
        for (int i = 0; i < n; i++) {
            int[] bids = new int[n()];
            for (int j = 0; j < n(); j++) {
                x = x.multiply(times).add(and).mod(around);
                bids[j] = x.shiftRight(33).mod(java.math.BigInteger.valueOf(law[4] + 1)).intValue();
            }
            book.add(rowOf(bids));
        }
        return book.size();
    }

    int undo() {
        if (book.isEmpty()) {
            return NONE;
        }
        book.remove(book.size() - 1);
        return book.size();
    }

    int often(int striver) {
        return is(striver) ? (int) book.stream().filter(row -> holder(digits(row)) == striver).count() : NONE;
    }

    int made(int first, int has) {
        if (!is(first) || !is(has) || first == has) {
            return NONE;
        }
        return (int) book.stream().filter(r -> holder(digits(r)) == has && firsts(digits(r)) == 1 << first).count();
    }

    int pair() {
        int best = NONE;
        int most = 0;
        for (int first = 0; first < n(); first++) {
            for (int has = 0; has < n(); has++) {
                if (made(first, has) > most) {
                    most = made(first, has);
                    best = 10 * first + has;
                }
            }
        }
        return best;
    }

    int sum(int striver) {
        return is(striver) ? book.stream().mapToInt(row -> gainOf(digits(row), striver)).sum() : HIDDEN;
    }

    // ---- hope

    private List<int[]> othersRows(int striver, int bid) {
        return rows(with(new int[n()], striver, bid), everybody() & ~(1 << striver));
    }

    int hope(int striver, int bid, int what) {
        if (n() > 4 || !is(striver) || bid < 0 || bid > law[4] || what < 0 || what > 1) {
            return HIDDEN;
        }
        List<int[]> rows = othersRows(striver, bid);
        return what == 0 ? (int) rows.stream().filter(r -> holder(r) == striver).count()
                : rows.stream().mapToInt(r -> gainOf(r, striver)).sum();
    }

    int bold(int striver) {
        if (n() > 4 || !is(striver)) {
            return NONE;
        }
        int best = 0;
        for (int bid = 1; bid <= law[4]; bid++) {
            if (hope(striver, bid, 1) > hope(striver, best, 1)) {
                best = bid;
            }
        }
        return best;
    }

    int voids() {
        if (n() == 0 || n() > 4) {
            return NONE;
        }
        return (int) rows(new int[n()], everybody()).stream().filter(r -> holder(r) == NONE).count();
    }

    int near(int row, int striver) {
        int[] bids = taken(row);
        if (bids == null || !is(striver)) {
            return NONE;
        }
        for (int far = 0; far <= 9; far++) {
            for (int bid : new int[] {bids[striver] - far, bids[striver] + far}) {
                if (bid >= 0 && bid <= law[4] && holder(with(bids, striver, bid)) == striver) {
                    return bid;
                }
            }
        }
        return NONE;
    }

    int changes(int row) {
        int[] bids = taken(row);
        if (bids == null) {
            return NONE;
        }
        int could = 0;
        for (int i = 0; i < n(); i++) {
            could += holder(bids) != i && near(row, i) != NONE ? 1 : 0;
        }
        return could;
    }

    // ---- images

    int image() {
        if (n() == 0) {
            return NONE;
        }
        image = new Object[] {new ArrayList<>(book), ruleOf.clone(), law.clone()};
        return book.size();
    }

    @SuppressWarnings("unchecked")
    int back() {
        if (image == null) {
            return NONE;
        }
        book = new ArrayList<>((List<Integer>) image[0]);
        ruleOf = ((int[]) image[1]).clone();
        law = ((int[]) image[2]).clone();
        return book.size();
    }

    int count(int what) {
        return what == 0 ? n() : what == 1 ? rules.size() : what == 2 ? tape.length() : what == 3 ? book.size() : HIDDEN;
    }
}
