import java.util.Arrays;
import java.util.NoSuchElementException;

/**
 * Who is second has it: strivers, the law by which a place has the prize, races, bids, waiting, rounds of bids,
 * and a book of honours. The words in capitals are those of the document (DOC.md).
 */
public final class SecondHas {
    public static final int NONE = -1;
    public static final int HIDDEN = -1000000;

    private static final int NO_SUCH_SORT = -2;
    private static final int SORT_LAND = 0;
    private static final int SORT_RULE = 1;

    private static final int MOST_BYTES = 160;
    private static final int LEAST_STRIVERS = 2;
    private static final int MOST_STRIVERS = 6;
    private static final int MOST_RULES = 4;
    private static final int MOST_WITHIN = 6;
    private static final int MOST_BOOKED = 40;
    private static final int MOST_TURNS = 60;
    private static final int MOST_FEE = 99;
    private static final int LONGEST = 99;
    private static final int MOST_ROUNDS = 100;
    private static final int FEW = 4;
    private static final int BASE = 10;

    private static final int PACE = 0;
    private static final int WORTH = 1;
    private static final int KIND = 2;
    private static final int TOLD = 3;
    private static final int RULE = 4;
    private static final int STRIVER_ITEMS = 4;
    private static final int[] STRIVER_LETTERS = {'p', 'w', 'k', 'b'};
    private static final int[] STRIVER_LOWS = {1, 0, 0, 0};
    private static final int[] STRIVER_HIGHS = {9, 99, 4, 9};
    private static final int[] STRIVER_USUAL = {3, 10, 0, 0};

    private static final int PLACE = 0;
    private static final int TIES = 1;
    private static final int PAID = 2;
    private static final int FEE = 3;
    private static final int MOST = 4;
    private static final int LAW_ITEMS = 5;
    private static final int[] LAW_LETTERS = {'r', 't', 'q', 'f', 'm'};
    private static final int[] LAW_LOWS = {1, 0, 0, 0, 0};
    private static final int[] LAW_HIGHS = {6, 1, 2, 99, 9};
    private static final int[] LAW_USUAL = {2, 0, 0, 0, 5};

    private final Tape tape;
    private final Land land;
    private final Land draft;
    private final Rules rules;
    private final Sale sale;
    private final Replies replies;
    private final Rests restful;
    private final Race run;
    private final Waiting line;
    private final Rounds anew;
    private final Book book;
    private final Book keptBook;
    private final int[] keptLaw;
    private final int[] keptRules;
    private boolean kept;

    public SecondHas() {
        tape = new Tape();
        land = new Land();
        draft = new Land();
        rules = new Rules();
        sale = new Sale(land);
        replies = new Replies(land, sale);
        restful = new Rests(land, sale);
        run = new Race(land, rules);
        line = new Waiting(land);
        anew = new Rounds(land, sale);
        book = new Book(land, sale);
        keptBook = new Book(land, sale);
        keptLaw = new int[LAW_ITEMS];
        keptRules = new int[MOST_STRIVERS];
        kept = false;
    }

    public int feed(int a, int b, int c, int d, int e) {
        int more = Tape.filled(a) + Tape.filled(b) + Tape.filled(c) + Tape.filled(d) + Tape.filled(e);
        if (tape.size + more > MOST_BYTES) {
            return NONE;
        }
        tape.add(a);
        tape.add(b);
        tape.add(c);
        tape.add(d);
        tape.add(e);
        return tape.size;
    }

    public boolean end(int n) {
        if (n < 0 || n > tape.size) {
            return false;
        }
        tape.size = n;
        return true;
    }

    public int fault(int sort) {
        if (sort == SORT_LAND) {
            return draft.read(tape);
        }
        if (sort == SORT_RULE) {
            return rules.read(tape);
        }
        return NO_SUCH_SORT;
    }

    public int text(int sort) {
        if (sort == SORT_LAND && draft.read(tape) == NONE) {
            return enterLand();
        }
        if (sort == SORT_RULE && rules.count < MOST_RULES && rules.read(tape) == NONE) {
            tape.size = 0;
            return rules.keep();
        }
        return NONE;
    }

    private int enterLand() {
        land.become(draft);
        book.size = 0;
        kept = false;
        restful.known = false;
        tape.size = 0;
        return land.size;
    }

    public int striver(int striver, int what) throws NoSuchElementException {
        if (!land.holds(striver) || what < 0 || what > RULE) {
            throw new NoSuchElementException();
        }
        return what == RULE ? land.ruleOf[striver] : land.item(striver, what);
    }

    public int law(int what) {
        return land.size == 0 || what < 0 || what >= LAW_ITEMS ? NONE : land.law[what];
    }

    public boolean change(int what, int v) {
        if (land.size == 0 || what < 0 || what >= LAW_ITEMS) {
            return false;
        }
        if (v < LAW_LOWS[what] || v > LAW_HIGHS[what]) {
            return false;
        }
        land.law[what] = v;
        restful.known = false;
        return true;
    }

    public boolean rule(int striver, int rule) {
        if (!land.holds(striver) || (rule != NONE && !rules.holds(rule))) {
            return false;
        }
        land.ruleOf[striver] = rule;
        return true;
    }

    public int race(int track, int dusk, int what) {
        if (land.size == 0 || !mayRun(track, dusk) || what < 0 || what > 2) {
            return HIDDEN;
        }
        run.rulesAsTold();
        run.go(track, dusk, dusk);
        if (what == 0) {
            return run.holder();
        }
        return what == 1 ? run.in : run.last;
    }

    public int came(int track, int dusk, int striver) {
        if (!land.holds(striver) || !mayRun(track, dusk)) {
            return HIDDEN;
        }
        run.rulesAsTold();
        run.go(track, dusk, dusk);
        return run.cameIn[striver];
    }

    public int step(int track, int dusk, int striver, int second) {
        if (!land.holds(striver) || !mayRun(track, dusk) || second < 0 || second > dusk) {
            return HIDDEN;
        }
        run.rulesAsTold();
        run.go(track, dusk, second);
        return run.gone[striver];
    }

    public int bids(int row, int what) {
        if (what < 0 || what > 3 || !sale.take(row)) {
            return HIDDEN;
        }
        sale.settle();
        if (what == 0) {
            return sale.holder;
        }
        if (what == 1) {
            return sale.paid;
        }
        return what == 2 ? sale.firsts : sale.takings();
    }

    public int gain(int row, int striver) {
        if (!land.holds(striver) || !sale.take(row)) {
            return HIDDEN;
        }
        sale.settle();
        return sale.gainOf(striver);
    }

    public int rests(int i) {
        if (!isSmall()) {
            return HIDDEN;
        }
        restful.find();
        return i == NONE ? restful.found : restful.nth(i);
    }

    public int seller(int what) {
        if (!isSmall() || what < 0 || what > 1) {
            return HIDDEN;
        }
        restful.find();
        if (restful.found == 0) {
            return NONE;
        }
        return what == 0 ? restful.least : restful.greatest;
    }

    public int cure(int row, int what) {
        if (what < 0 || what > 2 || !sale.take(row)) {
            return HIDDEN;
        }
        replies.better(land.all());
        if (what == 0) {
            return replies.who;
        }
        return what == 1 ? replies.how : replies.more;
    }

    public int firm(int row, int some) {
        if (!land.holdsSome(some) || !sale.take(row)) {
            return NONE;
        }
        replies.better(some);
        return replies.who == NONE ? 1 : 0;
    }

    public int together(int row, int some, int what) {
        if (what < 0 || what > 1 || !mayPact(row, some)) {
            return HIDDEN;
        }
        replies.best(some);
        return what == 0 ? replies.most : replies.mostRow;
    }

    public int treason(int row, int some) {
        if (!mayPact(row, some)) {
            return HIDDEN;
        }
        replies.best(some);
        sale.put(replies.mostRow);
        replies.better(some);
        return replies.who;
    }

    public int waits(int turns, int striver) {
        if (!land.holds(striver) || turns < 1 || turns > MOST_TURNS) {
            return HIDDEN;
        }
        line.behindTheFirst(turns);
        line.tillTheFirst(turns, land.law[FEE]);
        return line.turnOf(turns, striver);
    }

    public int spur(int turns) {
        if (land.size == 0 || turns < 1 || turns > MOST_TURNS) {
            return HIDDEN;
        }
        line.behindTheFirst(turns);
        for (int fee = MOST_FEE; fee >= -MOST_FEE; fee--) {
            if (line.tillTheFirst(turns, fee) != NONE) {
                return fee;
            }
        }
        return HIDDEN;
    }

    public int rounds(int what) {
        if (land.size == 0 || what < 0 || what > 2) {
            return HIDDEN;
        }
        anew.go();
        if (what == 0) {
            return anew.still;
        }
        return what == 1 ? anew.row : anew.ring();
    }

    public int honour(int row) {
        if (book.size >= MOST_BOOKED || !sale.take(row)) {
            return NONE;
        }
        book.add(row);
        return book.size;
    }

    public int years(int n, long seed) {
        if (land.size == 0 || n < 1 || n > MOST_BOOKED - book.size) {
            return NONE;
        }
        book.draw(n, seed);
        return book.size;
    }

    public int undo() {
        if (book.size == 0) {
            return NONE;
        }
        book.size--;
        return book.size;
    }

    public int often(int striver) {
        return land.holds(striver) ? book.timesOf(striver) : NONE;
    }

    public int made(int first, int has) {
        if (!land.holds(first) || !land.holds(has) || first == has) {
            return NONE;
        }
        book.countPairs();
        return book.timesOfPair(first, has);
    }

    public int pair() {
        book.countPairs();
        return book.mostOften();
    }

    public int sum(int striver) {
        return land.holds(striver) ? book.gainsOf(striver) : HIDDEN;
    }

    public int hope(int striver, int bid, int what) {
        if (!isSmall() || !land.holds(striver) || bid < 0 || bid > land.law[MOST] || what < 0 || what > 1) {
            return HIDDEN;
        }
        replies.against(striver, bid);
        return what == 0 ? replies.times : replies.gains;
    }

    public int bold(int striver) {
        return isSmall() && land.holds(striver) ? replies.boldest(striver) : NONE;
    }

    public int voids() {
        return isSmall() ? replies.rowsOfNobody() : NONE;
    }

    public int near(int row, int striver) {
        return land.holds(striver) && sale.take(row) ? replies.nearest(striver) : NONE;
    }

    public int changes(int row) {
        return sale.take(row) ? replies.couldHave() : NONE;
    }

    public int without(int track, int dusk, int striver) {
        if (!land.holds(striver) || !mayRun(track, dusk)) {
            return HIDDEN;
        }
        return holderWith(track, dusk, striver, NONE);
    }

    public int choice(int track, int dusk, int striver) {
        if (!land.holds(striver) || !mayRun(track, dusk)) {
            return HIDDEN;
        }
        for (int rule = 0; rule < rules.count; rule++) {
            if (holderWith(track, dusk, striver, rule) == striver) {
                return rule;
            }
        }
        return NONE;
    }

    public int latest(int track) {
        if (land.size == 0 || !mayRun(track, 1)) {
            return HIDDEN;
        }
        run.rulesAsTold();
        for (int dusk = 1; dusk <= LONGEST; dusk++) {
            run.go(track, dusk, dusk);
            if (run.holder() != NONE) {
                return dusk;
            }
        }
        return NONE;
    }

    public int medal(int track, int dusk, int striver) {
        if (!land.holds(striver) || !mayRun(track, dusk)) {
            return HIDDEN;
        }
        run.rulesAsTold();
        run.go(track, dusk, dusk);
        return run.placeOf(striver);
    }

    public int image() {
        if (land.size == 0) {
            return NONE;
        }
        keptBook.become(book);
        System.arraycopy(land.law, 0, keptLaw, 0, LAW_ITEMS);
        System.arraycopy(land.ruleOf, 0, keptRules, 0, MOST_STRIVERS);
        kept = true;
        return book.size;
    }

    public int back() {
        if (!kept) {
            return NONE;
        }
        book.become(keptBook);
        System.arraycopy(keptLaw, 0, land.law, 0, LAW_ITEMS);
        System.arraycopy(keptRules, 0, land.ruleOf, 0, MOST_STRIVERS);
        restful.known = false;
        return book.size;
    }

    public int count(int what) {
        switch (what) {
            case 0:
                return land.size;
            case 1:
                return rules.count;
            case 2:
                return tape.size;
            case 3:
                return book.size;
            default:
                return HIDDEN;
        }
    }

    private boolean isSmall() {
        return land.size > 0 && land.size <= FEW;
    }

    private static boolean mayRun(int track, int dusk) {
        return track >= 1 && track <= LONGEST && dusk >= 1 && dusk <= LONGEST;
    }

    private boolean mayPact(int row, int some) {
        return land.holdsSome(some) && Integer.bitCount(some) <= FEW && sale.take(row);
    }

    private int holderWith(int track, int dusk, int striver, int rule) {
        run.rulesAsTold();
        run.ruleOf[striver] = rule;
        run.go(track, dusk, dusk);
        return run.holder();
    }

    private static int indexIn(int[] letters, int sign) {
        for (int i = 0; i < letters.length; i++) {
            if (letters[i] == sign) {
                return i;
            }
        }
        return NONE;
    }

    /** The bytes that were fed and a cursor; where a reader gives up, the cursor is left at the FAULT. */
    private static final class Tape {
        static final int END = 0;
        private static final int BLANK = 32;

        private final int[] bytes = new int[MOST_BYTES];
        int size;
        int at;

        static int filled(int number) {
            int filled = 0;
            for (int shift = 24; shift >= 0; shift -= 8) {
                if (((number >>> shift) & 255) != 0) {
                    filled++;
                }
            }
            return filled;
        }

        void add(int number) {
            for (int shift = 24; shift >= 0; shift -= 8) {
                int one = (number >>> shift) & 255;
                if (one != 0 && size < bytes.length) {
                    bytes[size] = one;
                    size++;
                }
            }
        }

        /** The next sign behind blanks; the cursor then stands at it (at the length, if there is none). */
        int sign() {
            while (at < size && bytes[at] == BLANK) {
                at++;
            }
            return at < size ? bytes[at] : END;
        }

        boolean take(int sign) {
            if (sign() != sign) {
                return false;
            }
            at++;
            return true;
        }

        /** The number at the cursor; NONE, if there is none or it has too many digits. */
        int number(int digits) {
            int value = 0;
            int had = 0;
            while (at < size && bytes[at] >= '0' && bytes[at] <= '9') {
                if (had == digits) {
                    return NONE;
                }
                value = value * BASE + bytes[at] - '0';
                had++;
                at++;
            }
            return had == 0 ? NONE : value;
        }
    }

    /** The STRIVERS, their RULES and the LAW; of size 0 as long as there is no LAND. */
    private static final class Land {
        private final int[] items = new int[MOST_STRIVERS * STRIVER_ITEMS];
        final int[] law = new int[LAW_ITEMS];
        final int[] ruleOf = new int[MOST_STRIVERS];
        private boolean lawTold;
        int size;

        boolean holds(int striver) {
            return striver >= 0 && striver < size;
        }

        int all() {
            return (1 << size) - 1;
        }

        boolean holdsSome(int some) {
            return some > 0 && some <= all();
        }

        int item(int striver, int what) {
            return holds(striver) && what >= 0 && what < STRIVER_ITEMS ? items[striver * STRIVER_ITEMS + what] : 0;
        }

        void become(Land other) {
            System.arraycopy(other.items, 0, items, 0, items.length);
            System.arraycopy(other.law, 0, law, 0, LAW_ITEMS);
            Arrays.fill(ruleOf, NONE);
            size = other.size;
        }

        /** Reads the TAPE as a LAND: its FAULT, or NONE. */
        int read(Tape tape) {
            size = 0;
            lawTold = false;
            System.arraycopy(LAW_USUAL, 0, law, 0, LAW_ITEMS);
            tape.at = 0;
            boolean more = true;
            for (int i = 0; more && i < MOST_BYTES; i++) {
                if (!readClause(tape)) {
                    return tape.at;
                }
                more = tape.take(';');
            }
            return tape.sign() != Tape.END || size < LEAST_STRIVERS ? tape.at : NONE;
        }

        private boolean readClause(Tape tape) {
            int sign = tape.sign();
            if (sign == 's' && size < MOST_STRIVERS) {
                tape.at++;
                int from = size * STRIVER_ITEMS;
                size++;
                System.arraycopy(STRIVER_USUAL, 0, items, from, STRIVER_ITEMS);
                return readItems(tape, STRIVER_LETTERS, STRIVER_LOWS, STRIVER_HIGHS, items, from);
            }
            if (sign == 'l' && !lawTold) {
                tape.at++;
                lawTold = true;
                return readItems(tape, LAW_LETTERS, LAW_LOWS, LAW_HIGHS, law, 0);
            }
            return false;
        }

        private static boolean readItems(Tape tape, int[] letters, int[] lows, int[] highs, int[] into, int from) {
            int had = 0;
            for (int i = 0; i <= letters.length; i++) {
                int item = indexIn(letters, tape.sign());
                if (item == NONE) {
                    return true;
                }
                if ((had >> item & 1) != 0) {
                    return false;
                }
                had |= 1 << item;
                tape.at++;
                tape.sign();
                int value = tape.number(2);
                if (value == NONE) {
                    return false;
                }
                if (value < lows[item] || value > highs[item]) {
                    tape.at--;
                    return false;
                }
                into[from + item] = value;
            }
            return true;
        }
    }

    /**
     * The RULES as codes: a number stands for itself, a letter for minus its place in LETTERS and 1, another sign for
     * minus its byte, behind what it joins; ? ends a CONDITION and ; a CLAUSE.
     */
    private static final class Rules {
        private static final int[] LETTERS = {'d', 'a', 'b', 'o', 'l', 't'};
        /** No byte of a TEXT gives more than one code. */
        private static final int MOST_CODES = MOST_BYTES;
        private static final int MOST_STACK = 64;
        private static final int MOST_NUMBER = 1000000;
        private static final int MOST_DIGITS = 4;

        private final int[] codes = new int[MOST_RULES * MOST_CODES];
        private final int[] lengths = new int[MOST_RULES];
        private final int[] draft = new int[MOST_CODES];
        private final int[] stack = new int[MOST_STACK];
        final int[] letters = new int[LETTERS.length];
        private int length;
        int count;

        boolean holds(int rule) {
            return rule >= 0 && rule < count;
        }

        /** Keeps the RULE that was read last: its number. */
        int keep() {
            if (count >= MOST_RULES) {
                return NONE;
            }
            System.arraycopy(draft, 0, codes, count * MOST_CODES, length);
            lengths[count] = length;
            count++;
            return count - 1;
        }

        /** Reads the TAPE as a RULE: its FAULT, or NONE. */
        int read(Tape tape) {
            length = 0;
            tape.at = 0;
            boolean more = true;
            for (int i = 0; more && i < MOST_BYTES; i++) {
                if (!readClause(tape)) {
                    return tape.at;
                }
                more = tape.take(';');
            }
            return tape.sign() != Tape.END ? tape.at : NONE;
        }

        private boolean readClause(Tape tape) {
            if (!tape.take('y') || !tape.take(':')) {
                return false;
            }
            int sign = tape.sign();
            boolean begun = sign != '!' && sign != '(';
            if (begun && !readSum(tape, 0)) {
                return false;
            }
            if (!begun || isComparison(tape.sign())) {
                if (!readCondition(tape, 0, begun) || !tape.take('?')) {
                    return false;
                }
                put(-'?');
                if (!readSum(tape, 0)) {
                    return false;
                }
            }
            put(-';');
            return true;
        }

        /** With begun the first SUM of the CONDITION has been read: only then does one know that it is one. */
        private boolean readCondition(Tape tape, int within, boolean begun) {
            if (!readUnit(tape, within, begun)) {
                return false;
            }
            boolean open = false;
            for (int i = 0; i < MOST_BYTES; i++) {
                int sign = tape.sign();
                if (sign != '&' && sign != '|') {
                    break;
                }
                tape.at++;
                if (sign == '|') {
                    if (open) {
                        put(-'|');
                    }
                    open = true;
                }
                if (!readUnit(tape, within, false)) {
                    return false;
                }
                if (sign == '&') {
                    put(-'&');
                }
            }
            if (open) {
                put(-'|');
            }
            return true;
        }

        private boolean readUnit(Tape tape, int within, boolean begun) {
            if (!begun) {
                int opening = tape.sign();
                if (opening == '!' || opening == '(') {
                    return within < MOST_WITHIN && readOpened(tape, within + 1, opening);
                }
                if (!readSum(tape, within)) {
                    return false;
                }
            }
            int sign = tape.sign();
            if (!isComparison(sign)) {
                return false;
            }
            tape.at++;
            if (!readSum(tape, within)) {
                return false;
            }
            put(-sign);
            return true;
        }

        private boolean readOpened(Tape tape, int within, int opening) {
            tape.at++;
            if (opening == '(') {
                return readCondition(tape, within, false) && tape.take(')');
            }
            if (!readUnit(tape, within, false)) {
                return false;
            }
            put(-'!');
            return true;
        }

        private boolean readSum(Tape tape, int within) {
            if (!readAtom(tape, within)) {
                return false;
            }
            int open = 0;
            for (int i = 0; i < MOST_BYTES; i++) {
                int sign = tape.sign();
                boolean joinsTerms = sign == '+' || sign == '-';
                if (!joinsTerms && sign != '*' && sign != '/') {
                    break;
                }
                tape.at++;
                if (joinsTerms) {
                    if (open != 0) {
                        put(-open);
                    }
                    open = sign;
                }
                if (!readAtom(tape, within)) {
                    return false;
                }
                if (!joinsTerms) {
                    put(-sign);
                }
            }
            if (open != 0) {
                put(-open);
            }
            return true;
        }

        private boolean readAtom(Tape tape, int within) {
            int sign = tape.sign();
            if (sign == '[') {
                if (within >= MOST_WITHIN) {
                    return false;
                }
                tape.at++;
                return readSum(tape, within + 1) && tape.take(']');
            }
            int letter = indexIn(LETTERS, sign);
            if (letter != NONE) {
                tape.at++;
                put(-1 - letter);
                return true;
            }
            int number = tape.number(MOST_DIGITS);
            if (number == NONE) {
                return false;
            }
            put(number);
            return true;
        }

        private static boolean isComparison(int sign) {
            return sign == '=' || sign == '<' || sign == '>';
        }

        private void put(int code) {
            if (length < draft.length) {
                draft[length] = code;
                length++;
            }
        }

        /** WORTH of a RULE by the letters as they are now. */
        int worth(int rule) {
            if (!holds(rule)) {
                return 0;
            }
            int from = rule * MOST_CODES;
            int top = 0;
            boolean passed = false;
            for (int i = 0; i < lengths[rule]; i++) {
                int sign = -codes[from + i];
                if (sign == ';') {
                    if (!passed) {
                        return stack[0];
                    }
                    passed = false;
                } else if (sign == '?') {
                    passed = stack[0] == 0;
                    top = 0;
                } else if (!passed) {
                    top = apply(sign, top);
                }
            }
            return 0;
        }

        private int apply(int sign, int top) {
            if (sign <= LETTERS.length) {
                if (top < 0 || top >= stack.length) {
                    return top;
                }
                stack[top] = sign <= 0 ? -sign : letters[sign - 1];
                return top + 1;
            }
            if (sign == '!') {
                if (top >= 1) {
                    stack[top - 1] = 1 - stack[top - 1];
                }
                return top;
            }
            if (top < 2) {
                return top;
            }
            stack[top - 2] = join(sign, stack[top - 2], stack[top - 1]);
            return top - 1;
        }

        private static int join(int sign, int x, int y) {
            long value = 0;
            switch (sign) {
                case '=':
                    return x == y ? 1 : 0;
                case '<':
                    return x < y ? 1 : 0;
                case '>':
                    return x > y ? 1 : 0;
                case '&':
                    return x & y;
                case '|':
                    return x | y;
                case '+':
                    value = x + y;
                    break;
                case '-':
                    value = x - y;
                    break;
                case '*':
                    value = (long) x * y;
                    break;
                default:
                    value = y == 0 ? 0 : x / y;
            }
            return (int) Math.max(-MOST_NUMBER, Math.min(MOST_NUMBER, value));
        }
    }

    /** STRIVERS by their SCORES, more ahead; of like ones the lower number stands ahead. */
    private static final class Order {
        private final int[] who = new int[MOST_STRIVERS];
        private final int[] score = new int[MOST_STRIVERS];
        private int size;

        void clear() {
            size = 0;
        }

        /** STRIVERS enter by rising numbers, so that the lower one stays ahead of one alike. */
        void enter(int striver, int points) {
            if (size >= who.length) {
                return;
            }
            int at = size;
            while (at > 0 && score[at - 1] < points) {
                score[at] = score[at - 1];
                who[at] = who[at - 1];
                at--;
            }
            score[at] = points;
            who[at] = striver;
            size++;
        }

        private boolean alike(int at, int next) {
            return at >= 0 && next < size && score[at] == score[next];
        }

        int holder(int place, int ties) {
            int at = place - 1;
            if (at < 0 || at >= size) {
                return NONE;
            }
            return ties == 1 && (alike(at - 1, at) || alike(at, at + 1)) ? NONE : who[at];
        }

        int firsts(int ties) {
            int firsts = 0;
            for (int at = 0; at < size; at++) {
                if (at == 0 || (ties == 1 && score[at] == score[0])) {
                    firsts |= 1 << who[at];
                }
            }
            return firsts;
        }

        int whoAt(int at) {
            return at >= 0 && at < size ? who[at] : NONE;
        }

        /** The SCORE at a place (0 first), or another number where there is none. */
        int scoreAt(int at, int other) {
            return at >= 0 && at < size ? score[at] : other;
        }

        /** 1 and how many are ahead; 0, if it did not enter. */
        int placeOf(int striver, int ties) {
            int place = 0;
            for (int at = 0; at < size; at++) {
                if (ties == 0 || !alike(at - 1, at)) {
                    place = at + 1;
                }
                if (who[at] == striver) {
                    return place;
                }
            }
            return 0;
        }
    }

    /** One row of BIDS and what comes of it by the LAW as it is now. */
    private static final class Sale {
        private final Land land;
        private final Order order = new Order();
        final int[] bid = new int[MOST_STRIVERS];
        int holder;
        int paid;
        int firsts;
        int oneFirst;
        int bestGain;

        Sale(Land land) {
            this.land = land;
        }

        /** Takes a row; false, if there is no such one (none, too, without a LAND). */
        boolean take(int row) {
            if (land.size == 0 || row < 0 || put(row) != 0) {
                return false;
            }
            for (int i = 0; i < land.size; i++) {
                if (bid[i] > land.law[MOST]) {
                    return false;
                }
            }
            return true;
        }

        /** Puts a row without a look at MOST: what is left of it above the highest digit. */
        int put(int row) {
            int rest = row;
            for (int i = land.size - 1; i >= 0; i--) {
                bid[i] = rest % BASE;
                rest /= BASE;
            }
            return rest;
        }

        int row() {
            int row = 0;
            for (int i = 0; i < land.size; i++) {
                row = row * BASE + bid[i];
            }
            return row;
        }

        void settle() {
            order.clear();
            for (int i = 0; i < land.size; i++) {
                order.enter(i, bid[i]);
            }
            int place = land.law[PLACE];
            holder = order.holder(place, land.law[TIES]);
            firsts = order.firsts(land.law[TIES]);
            oneFirst = Integer.bitCount(firsts) == 1 ? order.whoAt(0) : NONE;
            paid = holder == NONE ? 0 : price(place - 1);
        }

        private int price(int at) {
            int own = order.scoreAt(at, 0);
            if (land.law[PAID] == 0) {
                return own;
            }
            return land.law[PAID] == 1 ? order.scoreAt(at - 1, own) : order.scoreAt(at + 1, 0);
        }

        int takings() {
            return paid + land.law[FEE] * Integer.bitCount(firsts);
        }

        int gainOf(int striver) {
            int won = holder == striver ? land.item(striver, WORTH) - paid : 0;
            return (firsts >> striver & 1) == 0 ? won : won - land.law[FEE];
        }

        int gainWith(int striver, int other) {
            bid[striver] = other;
            settle();
            return gainOf(striver);
        }

        /** The lowest bid with the greatest GAIN, others as they are; the row stays as it was. */
        int bestBid(int striver) {
            int own = bid[striver];
            int best = 0;
            for (int other = 0; other <= land.law[MOST]; other++) {
                bid[striver] = other;
                settle();
                int gained = gainOf(striver);
                if (other == 0 || gained > bestGain) {
                    bestGain = gained;
                    best = other;
                }
            }
            bid[striver] = own;
            return best;
        }

        /** How many rows there are, if just these STRIVERS bid anew. */
        int rowsOf(int some) {
            int rows = 1;
            for (int i = Integer.bitCount(some); i > 0; i--) {
                rows *= land.law[MOST] + 1;
            }
            return rows;
        }

        void lowest(int some) {
            for (int i = 0; i < land.size; i++) {
                if ((some >> i & 1) != 0) {
                    bid[i] = 0;
                }
            }
        }

        /** To the next row in which just these STRIVERS bid anew (behind the last: the lowest). */
        void next(int some) {
            for (int i = land.size - 1; i >= 0; i--) {
                if ((some >> i & 1) == 0) {
                    continue;
                }
                if (bid[i] < land.law[MOST]) {
                    bid[i]++;
                    return;
                }
                bid[i] = 0;
            }
        }
    }

    /** What other bids than those of the SALE's row would give: to one, to some together, over all rows. */
    private static final class Replies {
        private final Land land;
        private final Sale sale;
        int who;
        int how;
        int more;
        int most;
        int mostRow;
        int times;
        int gains;

        Replies(Land land, Sale sale) {
            this.land = land;
            this.sale = sale;
        }

        /** Who of some gains most more by another bid alone. */
        void better(int some) {
            who = NONE;
            how = NONE;
            more = 0;
            for (int i = 0; i < land.size; i++) {
                if ((some >> i & 1) == 0) {
                    continue;
                }
                int now = sale.gainWith(i, sale.bid[i]);
                int best = sale.bestBid(i);
                if (sale.bestGain - now > more) {
                    who = i;
                    how = best;
                    more = sale.bestGain - now;
                }
            }
        }

        /** The greatest sum of GAINS of some by any bids of theirs, and its lowest row. */
        void best(int some) {
            sale.lowest(some);
            int rows = sale.rowsOf(some);
            for (int i = 0; i < rows; i++) {
                sale.settle();
                int gain = gainOfSome(some);
                if (i == 0 || gain > most) {
                    most = gain;
                    mostRow = sale.row();
                }
                sale.next(some);
            }
        }

        private int gainOfSome(int some) {
            int gain = 0;
            for (int i = 0; i < land.size; i++) {
                if ((some >> i & 1) != 0) {
                    gain += sale.gainOf(i);
                }
            }
            return gain;
        }

        /** HOPE: a bid against all rows of the others. */
        void against(int striver, int bid) {
            times = 0;
            gains = 0;
            int others = land.all() & ~(1 << striver);
            sale.lowest(others);
            sale.bid[striver] = bid;
            int rows = sale.rowsOf(others);
            for (int i = 0; i < rows; i++) {
                sale.settle();
                times += sale.holder == striver ? 1 : 0;
                gains += sale.gainOf(striver);
                sale.next(others);
            }
        }

        int boldest(int striver) {
            int best = 0;
            int bestGains = 0;
            for (int bid = 0; bid <= land.law[MOST]; bid++) {
                against(striver, bid);
                if (bid == 0 || gains > bestGains) {
                    best = bid;
                    bestGains = gains;
                }
            }
            return best;
        }

        int rowsOfNobody() {
            int found = 0;
            sale.lowest(land.all());
            int rows = sale.rowsOf(land.all());
            for (int i = 0; i < rows; i++) {
                sale.settle();
                found += sale.holder == NONE ? 1 : 0;
                sale.next(land.all());
            }
            return found;
        }

        /** The bid nearest to its own by which a STRIVER has it; the row stays as it was. */
        int nearest(int striver) {
            int own = sale.bid[striver];
            int nearest = NONE;
            for (int bid = 0; bid <= land.law[MOST]; bid++) {
                sale.gainWith(striver, bid);
                boolean has = sale.holder == striver;
                if (has && (nearest == NONE || Math.abs(bid - own) < Math.abs(nearest - own))) {
                    nearest = bid;
                }
            }
            sale.bid[striver] = own;
            return nearest;
        }

        int couldHave() {
            sale.settle();
            int holder = sale.holder;
            int could = 0;
            for (int i = 0; i < land.size; i++) {
                if (i != holder && nearest(i) != NONE) {
                    could++;
                }
            }
            return could;
        }
    }

    /** The RESTS of a LAND, found once for a LAW and kept as bits, since each call asks for one of them alone. */
    private static final class Rests {
        private static final int ROWS = 10000;
        private static final int BITS = 64;

        private final Land land;
        private final Sale sale;
        private final long[] marks = new long[(ROWS + BITS - 1) / BITS];
        private final int[] gains = new int[BASE];
        boolean known;
        int found;
        int least;
        int greatest;

        Rests(Land land, Sale sale) {
            this.land = land;
            this.sale = sale;
        }

        void find() {
            if (known || land.size > FEW) {
                return;
            }
            Arrays.fill(marks, 0);
            markAll();
            for (int i = 0; i < land.size; i++) {
                unmarkWorse(i);
            }
            tally();
            known = true;
        }

        private void markAll() {
            int all = land.all();
            sale.lowest(all);
            int rows = sale.rowsOf(all);
            for (int i = 0; i < rows; i++) {
                mark(sale.row(), true);
                sale.next(all);
            }
        }

        /** No row is a REST in which one STRIVER would gain more by another bid alone. */
        private void unmarkWorse(int striver) {
            int others = land.all() & ~(1 << striver);
            sale.lowest(others);
            int rows = sale.rowsOf(others);
            for (int i = 0; i < rows; i++) {
                int best = 0;
                for (int bid = 0; bid <= land.law[MOST] && bid < BASE; bid++) {
                    gains[bid] = sale.gainWith(striver, bid);
                    best = bid == 0 ? gains[bid] : Math.max(best, gains[bid]);
                }
                for (int bid = 0; bid <= land.law[MOST] && bid < BASE; bid++) {
                    if (gains[bid] < best) {
                        sale.bid[striver] = bid;
                        mark(sale.row(), false);
                    }
                }
                sale.next(others);
            }
        }

        private void tally() {
            found = 0;
            for (int row = 0; row < ROWS; row++) {
                if (!isMarked(row)) {
                    continue;
                }
                sale.put(row);
                sale.settle();
                int takings = sale.takings();
                least = found == 0 ? takings : Math.min(least, takings);
                greatest = found == 0 ? takings : Math.max(greatest, takings);
                found++;
            }
        }

        int nth(int wanted) {
            if (wanted < 0 || wanted >= found) {
                return NONE;
            }
            int left = wanted;
            int word = 0;
            while (word < marks.length && Long.bitCount(marks[word]) <= left) {
                left -= Long.bitCount(marks[word]);
                word++;
            }
            for (int row = word * BITS; row < ROWS; row++) {
                left -= isMarked(row) ? 1 : 0;
                if (left < 0) {
                    return row;
                }
            }
            return NONE;
        }

        private boolean isMarked(int row) {
            return row >= 0 && row < ROWS && (marks[row / BITS] >>> (row % BITS) & 1) != 0;
        }

        private void mark(int row, boolean on) {
            if (row < 0 || row >= ROWS) {
                return;
            }
            long bit = 1L << (row % BITS);
            if (on) {
                marks[row / BITS] |= bit;
            } else {
                marks[row / BITS] &= ~bit;
            }
        }
    }

    /** A RACE, run anew for each question: its steps need no room then. */
    private static final class Race {
        private final Land land;
        private final Rules rules;
        private final Order order = new Order();
        final int[] ruleOf = new int[MOST_STRIVERS];
        final int[] gone = new int[MOST_STRIVERS];
        final int[] cameIn = new int[MOST_STRIVERS];
        private final int[] steps = new int[MOST_STRIVERS];
        int in;
        int last;

        Race(Land land, Rules rules) {
            this.land = land;
            this.rules = rules;
        }

        void rulesAsTold() {
            System.arraycopy(land.ruleOf, 0, ruleOf, 0, MOST_STRIVERS);
        }

        /** Runs the first seconds of a RACE that has DUSK. */
        void go(int track, int dusk, int seconds) {
            Arrays.fill(gone, 0);
            Arrays.fill(cameIn, NONE);
            in = 0;
            last = NONE;
            for (int second = 0; second < seconds && in < land.size; second++) {
                for (int i = 0; i < land.size; i++) {
                    steps[i] = cameIn[i] == NONE ? stepsOf(i, track, dusk, second) : 0;
                }
                walk(track, second);
                last = second;
            }
        }

        private int stepsOf(int striver, int track, int dusk, int second) {
            int ahead = 0;
            int behind = 0;
            for (int i = 0; i < land.size; i++) {
                if (gone[i] > gone[striver]) {
                    ahead++;
                } else if (gone[i] < gone[striver]) {
                    behind++;
                }
            }
            int[] letters = rules.letters;
            letters[0] = track - gone[striver];
            letters[1] = ahead;
            letters[2] = behind;
            letters[3] = in;
            letters[4] = dusk - second;
            letters[5] = second;
            return Math.max(0, Math.min(land.item(striver, PACE), rules.worth(ruleOf[striver])));
        }

        private void walk(int track, int second) {
            for (int i = 0; i < land.size; i++) {
                gone[i] = Math.min(track, gone[i] + steps[i]);
                if (gone[i] == track && cameIn[i] == NONE) {
                    cameIn[i] = second;
                    in++;
                }
            }
        }

        /** Who is not in does not enter the ORDER; the earlier second is the higher SCORE there. */
        private void rank() {
            order.clear();
            for (int i = 0; i < land.size; i++) {
                if (cameIn[i] != NONE) {
                    order.enter(i, -cameIn[i]);
                }
            }
        }

        int holder() {
            rank();
            return order.holder(land.law[PLACE], land.law[TIES]);
        }

        int placeOf(int striver) {
            rank();
            return order.placeOf(striver, land.law[TIES]);
        }
    }

    /**
     * WAITING, found from the last turn back. Behind the first who goes the FEE bears on nothing any more, so that part
     * is found once, and for each FEE only what is done as long as nobody has gone.
     */
    private static final class Waiting {
        private final Land land;
        private final int[] holderBehind = new int[1 << MOST_STRIVERS];
        private final long[] goes = new long[MOST_TURNS];
        private final int[] holderIfFirst = new int[MOST_TURNS];
        private final boolean[] goesFirst = new boolean[MOST_TURNS];

        Waiting(Land land) {
            this.land = land;
        }

        /** What is done behind the first, by who has gone (bits), at each turn. */
        void behindTheFirst(int turns) {
            Arrays.fill(holderBehind, NONE);
            for (int turn = Math.min(turns, MOST_TURNS) - 1; turn >= 0 && land.size > 0; turn--) {
                int mover = turn % land.size;
                holderIfFirst[turn] = land.law[PLACE] == 1 ? mover : holderBehind[1 << mover];
                goes[turn] = 0;
                for (int gone = 1; gone <= land.all() && gone < holderBehind.length; gone++) {
                    if ((gone >> mover & 1) == 0) {
                        decide(turn, mover, gone);
                    }
                }
            }
        }

        private void decide(int turn, int mover, int gone) {
            boolean prize = Integer.bitCount(gone) == land.law[PLACE] - 1;
            int worth = land.item(mover, WORTH);
            int byGoing = prize ? worth : 0;
            int byWaiting = holderBehind[gone] == mover ? worth : 0;
            if (byGoing > byWaiting) {
                goes[turn] |= 1L << gone;
                holderBehind[gone] = prize ? mover : holderBehind[gone | 1 << mover];
            }
        }

        /** What is done as long as nobody has gone: who has the prize in the end. */
        int tillTheFirst(int turns, int fee) {
            int first = NONE;
            int holder = NONE;
            for (int turn = Math.min(turns, MOST_TURNS) - 1; turn >= 0 && land.size > 0; turn--) {
                int mover = turn % land.size;
                int worth = land.item(mover, WORTH);
                int byGoing = (land.law[PLACE] == 1 ? worth : 0) - fee;
                int byWaiting = (holder == mover ? worth : 0) - (first == mover ? fee : 0);
                goesFirst[turn] = byGoing > byWaiting;
                if (goesFirst[turn]) {
                    first = mover;
                    holder = holderIfFirst[turn];
                }
            }
            return holder;
        }

        int turnOf(int turns, int striver) {
            int gone = 0;
            for (int turn = 0; turn < turns && turn < MOST_TURNS && land.size > 0; turn++) {
                int mover = turn % land.size;
                boolean now = gone == 0 ? goesFirst[turn] : (goes[turn] >>> gone & 1) != 0;
                if (now && mover == striver) {
                    return turn;
                }
                if (now) {
                    gone |= 1 << mover;
                }
            }
            return NONE;
        }
    }

    /** ROUNDS in which all bid anew at once. */
    private static final class Rounds {
        /** Far above what any ring can need: there are 1,000,000 rows at most. */
        private static final int MOST_SOUGHT = 4000000;

        private final Land land;
        private final Sale sale;
        private final int[] fresh = new int[MOST_STRIVERS];
        int still;
        int row;

        Rounds(Land land, Sale sale) {
            this.land = land;
            this.sale = sale;
        }

        /** From the bids told till all is STILL, 100 rounds at most. */
        void go() {
            for (int i = 0; i < land.size; i++) {
                sale.bid[i] = told(i);
            }
            row = sale.row();
            still = NONE;
            for (int round = 0; round <= MOST_ROUNDS && still == NONE; round++) {
                int then = rowBehind(row);
                if (then == row) {
                    still = round;
                } else if (round < MOST_ROUNDS) {
                    row = then;
                }
            }
        }

        private int told(int striver) {
            return Math.min(land.item(striver, TOLD), land.law[MOST]);
        }

        private int rowBehind(int ahead) {
            sale.put(ahead);
            for (int i = 0; i < land.size; i++) {
                fresh[i] = bidAnew(i);
            }
            System.arraycopy(fresh, 0, sale.bid, 0, land.size);
            return sale.row();
        }

        private int bidAnew(int striver) {
            int most = land.law[MOST];
            switch (land.item(striver, KIND)) {
                case 1:
                    return sale.bestBid(striver);
                case 2:
                    return sale.bid[striver == 0 ? land.size - 1 : striver - 1];
                case 3:
                    return most;
                case 4:
                    return sale.bid[striver] == 0 ? most : sale.bid[striver] - 1;
                default:
                    return told(striver);
            }
        }

        /** How long the ring is: a mark is set ever farther apart, till one comes back to it. */
        int ring() {
            int mark = row;
            int now = row;
            int gap = 1;
            int since = 0;
            for (int i = 0; i < MOST_SOUGHT; i++) {
                now = rowBehind(now);
                since++;
                if (now == mark) {
                    return since;
                }
                if (since == gap) {
                    mark = now;
                    gap *= 2;
                    since = 0;
                }
            }
            return NONE;
        }
    }

    /** The book of HONOURS: rows that were made, told anew by the LAW as it is now. */
    private static final class Book {
        private static final long DRAW_TIMES = 6364136223846793005L;
        private static final long DRAW_AND = 1442695040888963407L;
        private static final int DRAW_SHIFT = 33;

        private final Land land;
        private final Sale sale;
        private final int[] rows = new int[MOST_BOOKED];
        private final int[] pairs = new int[MOST_STRIVERS * BASE];
        int size;

        Book(Land land, Sale sale) {
            this.land = land;
            this.sale = sale;
        }

        void become(Book other) {
            System.arraycopy(other.rows, 0, rows, 0, MOST_BOOKED);
            size = other.size;
        }

        void add(int row) {
            if (size < rows.length) {
                rows[size] = row;
                size++;
            }
        }

        void draw(int n, long seed) {
            long x = seed;
            for (int i = 0; i < n; i++) {
                for (int striver = 0; striver < land.size; striver++) {
                    x = x * DRAW_TIMES + DRAW_AND;
                    sale.bid[striver] = drawOf(land.law[MOST] + 1, x);
                }
                add(sale.row());
            }
        }

        private static int drawOf(int m, long x) {
            return m > 0 ? (int) ((x >>> DRAW_SHIFT) % m) : 0;
        }

        int timesOf(int striver) {
            int times = 0;
            for (int i = 0; i < size; i++) {
                sale.put(rows[i]);
                sale.settle();
                times += sale.holder == striver ? 1 : 0;
            }
            return times;
        }

        int gainsOf(int striver) {
            int gains = 0;
            for (int i = 0; i < size; i++) {
                sale.put(rows[i]);
                sale.settle();
                gains += sale.gainOf(striver);
            }
            return gains;
        }

        /** How often one had it (the unit) when another one was the one FIRST (the ten). */
        void countPairs() {
            Arrays.fill(pairs, 0);
            for (int i = 0; i < size; i++) {
                sale.put(rows[i]);
                sale.settle();
                if (sale.oneFirst != NONE && sale.holder != NONE && sale.holder != sale.oneFirst) {
                    pairs[sale.oneFirst * BASE + sale.holder]++;
                }
            }
        }

        int timesOfPair(int first, int has) {
            return pairs[first * BASE + has];
        }

        int mostOften() {
            int best = NONE;
            for (int pair = 0; pair < pairs.length; pair++) {
                if (pairs[pair] > (best == NONE ? 0 : pairs[best])) {
                    best = pair;
                }
            }
            return best;
        }
    }
}
