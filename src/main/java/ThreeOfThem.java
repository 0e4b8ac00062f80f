import java.util.Arrays;

/**
 * Any three may turn out a fourth: a house of inmates who share a rent, like each other more or
 * less, swear oaths, and turn one another out by a rule that a text tells.
 */
public final class ThreeOfThem {
    public static final int NONE = -1, BAD = -2, STATE = -3, FULL = -4;
    public static final long NO = -4611686018427387904L;

    private static final int MISSING = -11, OUTSIDE = -12, UNLIKE = -13, BELOW_NOTHING = -14;
    private static final int NOT_TOLD = -100000;
    private static final int FAULT_BASE = -100;

    private static final int MOST_INMATES = 7;
    private static final int ALL_SETS = 1 << MOST_INMATES;
    private static final int MOST_NUMBER = 9;
    private static final int MOST_LIKE = 9;
    private static final int FIRST_LIKE = 5;
    private static final int FIRST_RENT = 100;
    private static final int MOST_RENT = 9999;
    private static final int FIRST_NEEDED = 3;
    private static final int LEAST_NEEDED = 2;
    private static final int MOST_NEEDED = 5;
    private static final int LAST_DAY = 999;
    private static final int TRIED_RENTS = 1000;
    private static final int RENT_STEP = 10;
    private static final int MOST_DRAWN_DAYS = 30;
    private static final int MOST_SEEDS = 10;
    /** So many sets of 3, or of 4, has a house of 7. */
    private static final int MOST_MEETINGS = 35;
    private static final int MOST_WENT = MOST_INMATES - LEAST_NEEDED;

    private static final int INMATE = 0, COOK = 1, SHY = 2, BAKER = 3, PROUD = 4, SNORER = 5;
    private static final int KINDS = 6;
    /** Under which kind each kind stands; nothing stands above an inmate. */
    private static final int[] UNDER = {NONE, INMATE, INMATE, COOK, SHY, COOK};

    private static final int MOST_TAPE = 160;
    private static final int MOST_TEXTS = 6;
    private static final int MOST_DIGITS = 4;
    private static final int MOST_OPEN = 5;
    private static final int MOST_COMPANY = 99;
    private static final int MOST_OATH = 99;
    private static final String FIRST_RULE = "company like ; oath 20 ; joins like < 9 ;";

    // Tokens, and the steps of a text's code: a number stands for itself, all else is below 0.
    private static final int LIKE = -1, MANY = -2, SHARE = -3, DAYS = -4, ONE = -5, OTHER = -6;
    private static final int OR = -7, AND = -8, NOT = -9, LESS = -10, SAME = -11;
    private static final int PLUS = -12, MINUS = -13, TIMES = -14, NEGATE = -15;
    private static final int OPEN = -16, CLOSE = -17, CLOSE_PART = -18;
    private static final int COMPANY = -19, OATH = -20, JOINS = -21, ENDED = -22, WRONG = -23;
    private static final int NAMES = 6;

    // How tightly a sign binds: an or is the loosest, a single one the tightest.
    private static final int OR_LEVEL = 0, AND_LEVEL = 1, COMPARE_LEVEL = 2;
    private static final int SUM_LEVEL = 3, TERM_LEVEL = 4, ONE_LEVEL = 5;

    private static final int SHEETS = 4;
    private static final int SORTS = 3;
    private static final int MOST_CELLS = 40;
    private static final int MOST_TRIPLES = 13;

    private final House house = new House();
    private final House kept = new House();
    private final Judge judge = new Judge();
    private final Reader reader = new Reader();
    private final Text[] texts = new Text[MOST_TEXTS];
    private final Sheet[] sheets = new Sheet[SHEETS];
    private int textCount;
    private boolean hasImage;

    public ThreeOfThem() {
        for (int i = 0; i < SHEETS; i++) {
            sheets[i] = new Sheet();
        }
        for (int i = 0; i < FIRST_RULE.length(); i++) {
            reader.put(FIRST_RULE.charAt(i));
        }
        texts[0] = reader.compile();
        textCount = 1;
        reader.clear();
    }

    // ---- inmates, the house

    public int inmate(int kind, int number) {
        if (kind < 0 || kind >= KINDS || number < 0 || number > MOST_NUMBER) {
            return BAD;
        }
        if (house.inmates >= MOST_INMATES) {
            return FULL;
        }
        return house.welcome(kind, number);
    }

    public int like(int one, int other, int v) {
        if (!house.knowsPair(one, other) || v < 0 || v > MOST_LIKE) {
            return BAD;
        }
        return house.changeLike(one, other, v);
    }

    public int swear(int one, int other, int is) {
        if (!house.knowsPair(one, other) || is < 0 || is > 1) {
            return BAD;
        }
        int was = has(house.oaths[one], other) ? 1 : 0;
        house.bind(one, other, is == 1);
        return was;
    }

    public int set(int what, int of, int v) {
        switch (what) {
            case 0:
                return setRent(v);
            case 1:
                return setNeeded(v);
            case 2:
                return setDay(v);
            case 3:
                return setNumber(of, v);
            case 4:
                return setIn(of, v);
            default:
                return BAD;
        }
    }

    private int setRent(int v) {
        if (v < 0 || v > MOST_RENT) {
            return BAD;
        }
        int was = house.rent;
        house.rent = v;
        return was;
    }

    private int setNeeded(int v) {
        if (v < LEAST_NEEDED || v > MOST_NEEDED) {
            return BAD;
        }
        int was = house.needed;
        house.needed = v;
        return was;
    }

    private int setDay(int v) {
        if (v < 0 || v > LAST_DAY) {
            return BAD;
        }
        int was = house.day;
        house.day = v;
        return was;
    }

    private int setNumber(int of, int v) {
        if (!house.knows(of) || v < 0 || v > MOST_NUMBER) {
            return BAD;
        }
        int was = house.numbers[of];
        house.numbers[of] = v;
        return was;
    }

    private int setIn(int of, int v) {
        if (!house.knows(of) || v < 0 || v > 1) {
            return BAD;
        }
        int was = house.isIn(of) ? 1 : 0;
        house.in = v == 1 ? house.in | bit(of) : house.in & ~bit(of);
        return was;
    }

    public int told(int one, int what) {
        if (!house.knows(one)) {
            return NOT_TOLD;
        }
        int n = Integer.bitCount(house.in);
        switch (what) {
            case 0:
                return house.kinds[one];
            case 1:
                return house.numbers[one];
            case 2:
                return house.isIn(one) ? 1 : 0;
            case 3:
                return house.bringsOf(one, n);
            case 4:
                return house.wantsOf(one, n, false);
            case 5:
                return house.wantsOf(one, n, true);
            case 6:
                return house.isIn(one) ? thinking().goodOf(one, house.in, n) : 0;
            case 7:
                return house.oaths[one];
            default:
                return NOT_TOLD;
        }
    }

    // ---- texts

    public int feed(int letter) {
        if (letter < 0 || letter > 255) {
            return BAD;
        }
        if (reader.size >= MOST_TAPE) {
            return FULL;
        }
        reader.put(letter);
        return reader.size;
    }

    public int text() {
        if (textCount >= MOST_TEXTS) {
            return FULL;
        }
        Text read = reader.compile();
        int fault = reader.place();
        reader.clear();
        if (read == null) {
            return FAULT_BASE - fault;
        }
        texts[textCount] = read;
        textCount++;
        return textCount - 1;
    }

    public int force(int text) {
        if (text < 0 || text >= textCount) {
            return BAD;
        }
        int was = house.rule;
        house.rule = text;
        return was;
    }

    // ---- looking no farther

    public int would(int band, int other) {
        if (!mayMeet(band, other)) {
            return BAD;
        }
        return thinkingOfHouse().wouldTurnOut(band, other) ? 1 : 0;
    }

    public int now(int what) {
        if (what < 0 || what > 2) {
            return BAD;
        }
        thinkingOfHouse();
        int other = judge.firstOther();
        if (what == 0) {
            return other == NONE ? NONE : judge.firstBand(other);
        }
        return what == 1 ? other : judge.allBands();
    }

    public int turnOut(int band, int other) {
        if (!mayMeet(band, other)) {
            return BAD;
        }
        if (!thinkingOfHouse().wouldTurnOut(band, other)) {
            return STATE;
        }
        house.leave(other);
        house.passDay();
        return Integer.bitCount(house.in);
    }

    public int goOn(int what) {
        if (what < 0 || what > MOST_WENT + 1) {
            return BAD;
        }
        int went = thinking().runOn();
        if (what == 0) {
            return judge.house.in;
        }
        if (what == 1) {
            return went;
        }
        return what - 2 < went ? judge.went[what - 2] : NONE;
    }

    public int end(int set, int what) {
        if (set < 0 || (set & ~house.everyone()) != 0 || what < 0 || what > 1) {
            return BAD;
        }
        thinking().foresee(set);
        return what == 0 ? judge.left[set] : judge.goesFirst[set];
    }

    private boolean mayMeet(int band, int other) {
        return (band & ~house.in) == 0 && Integer.bitCount(band) == house.needed
            && house.isIn(other) && !has(band, other);
    }

    // ---- who is safe

    public int safe() {
        thinkingOfHouse();
        int bits = 0;
        for (int one = 0; one < MOST_INMATES; one++) {
            if (house.isIn(one) && judge.isSafe(one)) {
                bits |= bit(one);
            }
        }
        return bits;
    }

    public int sworn(int one) {
        if (!house.isIn(one) || thinkingOfHouse().isSafe(one)) {
            return BAD;
        }
        return judge.savingOath(one);
    }

    public int oaths(int what) {
        if (what < 0 || what > 2) {
            return BAD;
        }
        thinkingOfHouse().findOaths();
        return judge.oathsFound[what];
    }

    public int shield(int one, int other) {
        if (!house.isIn(one) || !house.knows(other) || house.isIn(other)) {
            return BAD;
        }
        thinking().lookAt(house.in | bit(other));
        return judge.isSafe(one) ? 1 : 0;
    }

    public int holds(int what) {
        if (what < 0 || what > 1) {
            return BAD;
        }
        thinkingOfHouse();
        return what == 0 ? judge.leastNeeded() : judge.leastRent();
    }

    // ---- who the three were

    public int who(int sheet, int what) {
        if (!isSheet(sheet) || what < 0 || what > 2) {
            return BAD;
        }
        Sheet row = sheets[sheet];
        if (row.isMissing()) {
            return MISSING;
        }
        return thinking().follow(row) ? judge.followed[what] : BAD;
    }

    public int drawn(int seed, int n) {
        if (n < 0 || n > MOST_DRAWN_DAYS) {
            return BAD;
        }
        return thinking().draw(seed, n);
    }

    public long chance(int seed, int seeds, int n, int one, int part) {
        if (seeds < 1 || seeds > MOST_SEEDS || n < 0 || n > MOST_DRAWN_DAYS
            || !house.knows(one) || part < 0 || part > 1) {
            return NO;
        }
        int stays = 0;
        for (int i = 0; i < seeds; i++) {
            if (has(thinking().draw(seed + i, n), one)) {
                stays++;
            }
        }
        int divisor = commonDivisor(stays, seeds);
        return part == 0 ? stays / divisor : seeds / divisor;
    }

    public int image() {
        kept.become(house);
        hasImage = true;
        return house.inmates;
    }

    public int back() {
        if (!hasImage) {
            return STATE;
        }
        house.become(kept);
        return house.inmates;
    }

    public int count(int what) {
        switch (what) {
            case 0:
                return house.inmates;
            case 1:
                return Integer.bitCount(house.in);
            case 2:
                return house.oathPairs();
            case 3:
                return house.rent;
            case 4:
                return house.needed;
            case 5:
                return house.day;
            case 6:
                return textCount;
            case 7:
                return reader.size;
            case 8:
                return house.rule;
            default:
                return BAD;
        }
    }

    // ---- the host

    public int sheet(int sheet, int sort, int n) {
        if (!isSheet(sheet) || sort < Sheet.NO_SORT || sort >= SORTS) {
            return BAD;
        }
        if (sort == Sheet.NO_SORT) {
            sheets[sheet].begin(sort, 0);
            return 1;
        }
        if (n > MOST_CELLS) {
            return BAD;
        }
        if (n < 0) {
            return BELOW_NOTHING;
        }
        sheets[sheet].begin(sort, n);
        return 1;
    }

    public int cell(int sheet, int i, int v) {
        if (!isSheet(sheet)) {
            return BAD;
        }
        Sheet row = sheets[sheet];
        if (row.isMissing()) {
            return MISSING;
        }
        if (!row.reaches(i, 1)) {
            return OUTSIDE;
        }
        row.write(i, v);
        return 1;
    }

    public int copy(int sheet, int i, int other, int j, int n) {
        if (!isSheet(sheet) || !isSheet(other)) {
            return BAD;
        }
        Sheet from = sheets[sheet];
        Sheet to = sheets[other];
        if (from.isMissing() || to.isMissing()) {
            return MISSING;
        }
        if (from.sort != to.sort) {
            return UNLIKE;
        }
        if (!from.reaches(i, n) || !to.reaches(j, n)) {
            return OUTSIDE;
        }
        System.arraycopy(from.row, i, to.row, j, n);
        return n;
    }

    public int likes(int sheet, int sort, int from, int n) {
        if (!isSheet(sheet) || sort < 0 || sort >= SORTS || n < 0 || n > MOST_TRIPLES) {
            return BAD;
        }
        Sheet row = sheets[sheet];
        // A missing sheet is of no sort, so it is none of another sort either.
        if (!row.isMissing() && row.sort != sort) {
            return UNLIKE;
        }
        if (row.isMissing()) {
            return MISSING;
        }
        return likeByTriples(row, from, n);
    }

    private int likeByTriples(Sheet row, int from, int n) {
        int changed = 0;
        for (int k = 0; k < n; k++) {
            int at = from + 3 * k;
            if (!row.reaches(at, 3)) {
                return OUTSIDE;
            }
            if (like(row.row[at], row.row[at + 1], row.row[at + 2]) != BAD) {
                changed++;
            }
        }
        return changed;
    }

    public int taken(int one, int k) {
        if (k < 0 || k >= KINDS) {
            return BAD;
        }
        if (!house.knows(one)) {
            return MISSING;
        }
        return isUnder(house.kinds[one], k) ? house.numbers[one] : UNLIKE;
    }

    // ---- helpers

    /** The judge, who thinks of a copy of the house: nothing that comes of it is true. */
    private Judge thinking() {
        judge.house.become(house);
        Text rule = texts[house.rule];
        if (rule != null) {
            judge.rule = rule;
        }
        return judge;
    }

    private Judge thinkingOfHouse() {
        thinking().lookAt(house.in);
        return judge;
    }

    private static boolean isSheet(int sheet) {
        return sheet >= 0 && sheet < SHEETS;
    }

    private static int bit(int one) {
        return 1 << one;
    }

    private static boolean has(int bits, int one) {
        return (bits >>> one & 1) == 1;
    }

    private static int clamp(int v, int least, int most) {
        return Math.max(least, Math.min(most, v));
    }

    /** The lowest of the bits, so many of them: of all bands of these the first. NONE: too few. */
    private static int lowest(int bits, int many) {
        int rest = bits;
        for (int i = 0; i < many; i++) {
            if (rest == 0) {
                return NONE;
            }
            rest &= rest - 1;
        }
        return bits ^ rest;
    }

    /** In how many ways so many are chosen of all. */
    private static int choose(int all, int many) {
        int ways = 1;
        for (int i = 0; i < many; i++) {
            ways = ways * (all - i) / (i + 1);
        }
        return ways;
    }

    private static int commonDivisor(int a, int b) {
        for (int d = b; d > 1; d--) {
            if (a % d == 0 && b % d == 0) {
                return d;
            }
        }
        return 1;
    }

    private static boolean isUnder(int kind, int above) {
        int k = kind;
        for (int i = 0; i < KINDS && k >= 0 && k < KINDS; i++) {
            if (k == above) {
                return true;
            }
            k = UNDER[k];
        }
        return false;
    }

    private static int bringsAs(int kind, int number, int n) {
        switch (kind) {
            case COOK:
                return number + n;
            case SHY:
                return n < 4 ? number : bringsAs(INMATE, number, n);
            case BAKER:
                return 2 * bringsAs(COOK, number, n);
            case PROUD:
                return bringsAs(SHY, number, n) - 3;
            case SNORER:
                return bringsAs(COOK, number, n) - 12;
            default:
                return 0;
        }
    }

    private static int wantsAs(int kind, int number, int n, boolean breaks) {
        switch (kind) {
            case COOK:
                return wantsAs(INMATE, number, n, breaks) + n;
            case SHY:
                return wantsAs(INMATE, number, n, breaks) + number;
            case BAKER:
                return breaks ? wantsAs(COOK, number, n, true) : 0;
            case PROUD:
                return (breaks ? 2 : 1) * wantsAs(SHY, number, n, breaks);
            case SNORER:
                return wantsAs(COOK, number, n, breaks) - 5;
            default:
                return 1;
        }
    }

    /** All that an image keeps. */
    private static final class House {
        final int[] kinds = new int[MOST_INMATES];
        final int[] numbers = new int[MOST_INMATES];
        final int[] likes = new int[MOST_INMATES * MOST_INMATES];
        /** Of each inmate, with whom it is sworn, as bits. */
        final int[] oaths = new int[MOST_INMATES];
        int inmates;
        int in;
        int rent = FIRST_RENT;
        int needed = FIRST_NEEDED;
        int day;
        int rule;

        House() {
            Arrays.fill(likes, FIRST_LIKE);
        }

        void become(House h) {
            System.arraycopy(h.kinds, 0, kinds, 0, MOST_INMATES);
            System.arraycopy(h.numbers, 0, numbers, 0, MOST_INMATES);
            System.arraycopy(h.likes, 0, likes, 0, MOST_INMATES * MOST_INMATES);
            System.arraycopy(h.oaths, 0, oaths, 0, MOST_INMATES);
            inmates = h.inmates;
            in = h.in;
            rent = h.rent;
            needed = h.needed;
            day = h.day;
            rule = h.rule;
        }

        /**
         * The likes and oaths of one to come are as at first: those of inmates alone change, and
         * become(), by which inmates go, lays back all of them.
         */
        int welcome(int kind, int number) {
            int one = inmates;
            inmates++;
            kinds[one] = kind;
            numbers[one] = number;
            in |= bit(one);
            return one;
        }

        boolean knows(int one) {
            return one >= 0 && one < inmates;
        }

        boolean knowsPair(int one, int other) {
            return knows(one) && knows(other) && one != other;
        }

        boolean isIn(int one) {
            return knows(one) && has(in, one);
        }

        int everyone() {
            return bit(inmates) - 1;
        }

        int changeLike(int one, int other, int v) {
            int was = likes[one * MOST_INMATES + other];
            likes[one * MOST_INMATES + other] = v;
            return was;
        }

        void bind(int one, int other, boolean is) {
            oaths[one] = is ? oaths[one] | bit(other) : oaths[one] & ~bit(other);
            oaths[other] = is ? oaths[other] | bit(one) : oaths[other] & ~bit(one);
        }

        int oathPairs() {
            int ends = 0;
            for (int one = 0; one < inmates; one++) {
                ends += Integer.bitCount(oaths[one]);
            }
            return ends / 2;
        }

        void leave(int one) {
            in &= ~bit(one);
        }

        void passDay() {
            day = Math.min(day + 1, LAST_DAY);
        }

        int share(int n) {
            return n > 0 ? rent / n : 0;
        }

        int bringsOf(int one, int n) {
            return bringsAs(kinds[one], numbers[one], n);
        }

        int wantsOf(int one, int n, boolean breaks) {
            return Math.max(0, wantsAs(kinds[one], numbers[one], n, breaks));
        }
    }

    /** The code of a text, its three parts one behind the other, each step behind its operands. */
    private static final class Text {
        final int[] code;
        final int oathFrom;
        final int joinsFrom;

        Text(int[] code, int oathFrom, int joinsFrom) {
            this.code = code;
            this.oathFrom = oathFrom;
            this.joinsFrom = joinsFrom;
        }

        /** Whether a name stands in it: else it tells the same, whatever the name stands for. */
        boolean names(int name) {
            for (int step : code) {
                if (step == name) {
                    return true;
                }
            }
            return false;
        }

        int value(int part, int[] facts, int[] stack) {
            int from = part == COMPANY ? 0 : part == OATH ? oathFrom : joinsFrom;
            int to = part == COMPANY ? oathFrom : part == OATH ? joinsFrom : code.length;
            int top = 0;
            for (int i = from; i < to; i++) {
                int step = code[i];
                if (step >= -NAMES && top < stack.length) {
                    stack[top] = step >= 0 ? step : facts[-1 - step];
                    top++;
                } else if ((step == NOT || step == NEGATE) && top >= 1) {
                    int a = stack[top - 1];
                    stack[top - 1] = step == NEGATE ? -a : a == 0 ? 1 : 0;
                } else if (top >= 2) {
                    top--;
                    stack[top - 1] = join(step, stack[top - 1], stack[top]);
                }
            }
            return top >= 1 ? stack[0] : 0;
        }

        private static int join(int step, int a, int b) {
            switch (step) {
                case OR:
                    return a != 0 || b != 0 ? 1 : 0;
                case AND:
                    return a != 0 && b != 0 ? 1 : 0;
                case LESS:
                    return a < b ? 1 : 0;
                case SAME:
                    return a == b ? 1 : 0;
                case PLUS:
                    return a + b;
                case MINUS:
                    return a - b;
                default:
                    return a * b;
            }
        }
    }

    /** The tape, and how a text is read from it. */
    private static final class Reader {
        final int[] bytes = new int[MOST_TAPE];
        int size;
        private final int[] tokens = new int[MOST_TAPE];
        private final int[] places = new int[MOST_TAPE];
        private int tokenCount;
        private int at;
        private final int[] code = new int[MOST_TAPE];
        private int length;

        void put(int letter) {
            if (size < MOST_TAPE) {
                bytes[size] = letter;
                size++;
            }
        }

        void clear() {
            size = 0;
        }

        /** The place of the token at which reading stands: of the fault, if there was one. */
        int place() {
            return at < tokenCount ? places[at] : size;
        }

        /** The text; null, if it has a fault. */
        Text compile() {
            split();
            at = 0;
            length = 0;
            if (!readPart(COMPANY)) {
                return null;
            }
            int oathFrom = length;
            if (!readPart(OATH)) {
                return null;
            }
            int joinsFrom = length;
            if (!readPart(JOINS) || current() != ENDED) {
                return null;
            }
            return new Text(Arrays.copyOf(code, length), oathFrom, joinsFrom);
        }

        private void split() {
            tokenCount = 0;
            for (int from = 0; from < size; from++) {
                if (bytes[from] != ' ' && bytes[from] != '\n') {
                    int to = behind(from);
                    tokens[tokenCount] = tokenOf(from, to);
                    places[tokenCount] = from;
                    tokenCount++;
                    from = to - 1;
                }
            }
        }

        /** The place behind the token that begins here, which is as long as can be. */
        private int behind(int from) {
            int to = from + 1;
            if (isLetter(bytes[from])) {
                for (; to < size && isLetter(bytes[to]); to++) {
                }
            } else if (isDigit(bytes[from])) {
                for (; to < size && isDigit(bytes[to]); to++) {
                }
            }
            return to;
        }

        private int tokenOf(int from, int to) {
            if (isLetter(bytes[from])) {
                return wordOf(from, to);
            }
            return isDigit(bytes[from]) ? numberOf(from, to) : signOf(bytes[from]);
        }

        private int numberOf(int from, int to) {
            if (to - from > MOST_DIGITS) {
                return WRONG;
            }
            int v = 0;
            for (int i = from; i < to; i++) {
                v = v * 10 + bytes[i] - '0';
            }
            return v;
        }

        private int wordOf(int from, int to) {
            return spells("like", from, to) ? LIKE
                : spells("many", from, to) ? MANY
                : spells("share", from, to) ? SHARE
                : spells("days", from, to) ? DAYS
                : spells("one", from, to) ? ONE
                : spells("other", from, to) ? OTHER
                : spells("or", from, to) ? OR
                : spells("and", from, to) ? AND
                : spells("not", from, to) ? NOT
                : spells("company", from, to) ? COMPANY
                : spells("oath", from, to) ? OATH
                : spells("joins", from, to) ? JOINS : WRONG;
        }

        private boolean spells(String word, int from, int to) {
            if (word.length() != to - from) {
                return false;
            }
            for (int i = 0; i < word.length(); i++) {
                if (word.charAt(i) != bytes[from + i]) {
                    return false;
                }
            }
            return true;
        }

        private static int signOf(int letter) {
            switch (letter) {
                case '(':
                    return OPEN;
                case ')':
                    return CLOSE;
                case ';':
                    return CLOSE_PART;
                case '+':
                    return PLUS;
                case '-':
                    return MINUS;
                case '*':
                    return TIMES;
                case '<':
                    return LESS;
                case '=':
                    return SAME;
                default:
                    return WRONG;
            }
        }

        private static boolean isLetter(int letter) {
            return letter >= 'a' && letter <= 'z';
        }

        private static boolean isDigit(int letter) {
            return letter >= '0' && letter <= '9';
        }

        private int current() {
            return at < tokenCount ? tokens[at] : ENDED;
        }

        private boolean pass(int token) {
            boolean is = current() == token;
            at += is ? 1 : 0;
            return is;
        }

        private void emit(int step) {
            if (length < MOST_TAPE) {
                code[length] = step;
                length++;
            }
        }

        private boolean readPart(int key) {
            return pass(key) && readLevel(OR_LEVEL, 0) && pass(CLOSE_PART);
        }

        /** Reads what binds as this level or tighter, while so many brackets and signs are open. */
        private boolean readLevel(int level, int open) {
            if (level >= ONE_LEVEL) {
                return readOne(open);
            }
            if (level == COMPARE_LEVEL && current() == NOT) {
                return readOpened(NOT, level, open);
            }
            if (!readLevel(level + 1, open)) {
                return false;
            }
            // Of comparisons one may follow, of all others any number.
            int most = level == COMPARE_LEVEL ? 1 : MOST_TAPE;
            for (int i = 0; i < most && levelOf(current()) == level; i++) {
                int sign = current();
                at++;
                if (!readLevel(level + 1, open)) {
                    return false;
                }
                emit(sign);
            }
            return true;
        }

        private boolean readOne(int open) {
            int token = current();
            if (token >= -NAMES) {
                at++;
                emit(token);
                return true;
            }
            if (token == MINUS) {
                return readOpened(NEGATE, ONE_LEVEL, open);
            }
            return token == OPEN && readOpened(OPEN, OR_LEVEL, open) && pass(CLOSE);
        }

        /** Reads behind a bracket, a not, a minus, which is open till what it belongs to ends. */
        private boolean readOpened(int step, int level, int open) {
            if (open >= MOST_OPEN) {
                return false;
            }
            at++;
            if (!readLevel(level, open + 1)) {
                return false;
            }
            if (step != OPEN) {
                emit(step);
            }
            return true;
        }

        private static int levelOf(int token) {
            switch (token) {
                case OR:
                    return OR_LEVEL;
                case AND:
                    return AND_LEVEL;
                case LESS:
                case SAME:
                    return COMPARE_LEVEL;
                case PLUS:
                case MINUS:
                    return SUM_LEVEL;
                case TIMES:
                    return TERM_LEVEL;
                default:
                    return NONE;
            }
        }
    }

    /** Who tells, of a house in thought, what company is worth and who would join against whom. */
    private static final class Judge {
        final House house = new House();
        Text rule = new Text(new int[0], 0, 0);
        private final int[] facts = new int[NAMES];
        private final int[] stack = new int[MOST_TAPE];
        private int looked;
        /** Of each pair of it, what the one has more without the other one, but for the share. */
        private final int[] gains = new int[MOST_INMATES * MOST_INMATES];
        /** Of each other one of the set that is looked at, who would join against it, unsworn. */
        private final int[] freeAgainst = new int[MOST_INMATES];
        /** The same of those who would break an oath by it. */
        private final int[] swornAgainst = new int[MOST_INMATES];
        private final int[] goods = new int[ALL_SETS * MOST_INMATES];
        final int[] left = new int[ALL_SETS];
        final int[] goesFirst = new int[ALL_SETS];
        private final int[] meetings = new int[MOST_MEETINGS];
        private int meetingCount;
        final int[] went = new int[MOST_INMATES];
        final int[] oathsFound = new int[3];
        final int[] followed = new int[3];

        /** What the names of a text stand for. */
        private int[] factsOf(int one, int other, int n) {
            facts[-1 - LIKE] = house.likes[one * MOST_INMATES + other];
            facts[-1 - MANY] = n;
            facts[-1 - SHARE] = house.share(n);
            facts[-1 - DAYS] = house.day;
            facts[-1 - ONE] = one;
            facts[-1 - OTHER] = other;
            return facts;
        }

        /** What it is worth to the one, of n, that the other one is of them. */
        private int worthOf(int one, int other, int n) {
            int company = rule.value(COMPANY, factsOf(one, other, n), stack);
            return clamp(company, -MOST_COMPANY, MOST_COMPANY) + house.bringsOf(other, n);
        }

        /** Good of one in a set of n. */
        int goodOf(int one, int set, int n) {
            int good = house.share(n);
            for (int other = 0; other < MOST_INMATES; other++) {
                if (has(set, other) && other != one) {
                    good += worthOf(one, other, n);
                }
            }
            return good;
        }

        /** Whether so much more good moves one of n against the other one. */
        private boolean moves(int gain, int one, int other, int n, boolean breaks) {
            int price = house.wantsOf(one, n, breaks);
            if (gain < price) {
                return false;
            }
            factsOf(one, other, n);
            if (breaks && gain < price + clamp(rule.value(OATH, facts, stack), 0, MOST_OATH)) {
                return false;
            }
            return rule.value(JOINS, facts, stack) != 0;
        }

        /** Finds of each pair of a set whether the one would join against the other one. */
        void lookAt(int set) {
            looked = set;
            compare();
            weigh();
        }

        /**
         * What company is worth hangs on how many there are, not on who: so the good without an
         * other one is that of all, told as if there were one less, less that one's part.
         */
        private void compare() {
            int n = Integer.bitCount(looked);
            for (int one = 0; one < MOST_INMATES; one++) {
                int more = 0;
                for (int other = 0; other < MOST_INMATES; other++) {
                    if (isLookedPair(one, other)) {
                        int then = worthOf(one, other, n - 1);
                        more += then - worthOf(one, other, n);
                        gains[one * MOST_INMATES + other] = -then;
                    }
                }
                for (int other = 0; other < MOST_INMATES; other++) {
                    gains[one * MOST_INMATES + other] += more;
                }
            }
        }

        private void weigh() {
            Arrays.fill(freeAgainst, 0);
            Arrays.fill(swornAgainst, 0);
            int n = Integer.bitCount(looked);
            int moreShare = house.share(n - 1) - house.share(n);
            for (int one = 0; one < MOST_INMATES; one++) {
                for (int other = 0; other < MOST_INMATES; other++) {
                    if (isLookedPair(one, other)) {
                        int gain = gains[one * MOST_INMATES + other] + moreShare;
                        freeAgainst[other] |= moves(gain, one, other, n, false) ? bit(one) : 0;
                        swornAgainst[other] |= moves(gain, one, other, n, true) ? bit(one) : 0;
                    }
                }
            }
        }

        private boolean isLookedPair(int one, int other) {
            return one != other && has(looked, one) && has(looked, other);
        }

        /** Who would join against the other one, if it were sworn with these. */
        private int against(int other, int friends) {
            return (freeAgainst[other] & ~friends) | (swornAgainst[other] & friends);
        }

        private int against(int other) {
            return against(other, house.oaths[other]);
        }

        boolean wouldTurnOut(int band, int other) {
            return (band & ~against(other)) == 0;
        }

        int firstBand(int other) {
            return lowest(against(other), house.needed);
        }

        private int bandsAgainst(int other) {
            return choose(Integer.bitCount(against(other)), house.needed);
        }

        int allBands() {
            int bands = 0;
            for (int other = 0; other < MOST_INMATES; other++) {
                bands += bandsAgainst(other);
            }
            return bands;
        }

        /** Whom the first band would turn out; NONE: the house is at rest. */
        int firstOther() {
            int first = NONE;
            for (int other = 0; other < MOST_INMATES; other++) {
                int band = firstBand(other);
                if (band != NONE && (first == NONE || band < firstBand(first))) {
                    first = other;
                }
            }
            return first;
        }

        private boolean atRest() {
            for (int other = 0; other < MOST_INMATES; other++) {
                if (!isSafe(other)) {
                    return false;
                }
            }
            return true;
        }

        boolean isSafe(int one) {
            return Integer.bitCount(against(one)) < house.needed;
        }

        /** How many go, till the house is at rest. */
        int runOn() {
            int gone = 0;
            for (int i = 0; i < MOST_INMATES; i++) {
                lookAt(house.in);
                int other = firstOther();
                if (other == NONE) {
                    return gone;
                }
                went[gone] = other;
                gone++;
                house.leave(other);
                house.passDay();
            }
            return gone;
        }

        /** Tells the ends of all sets within this one, the small ones, on which others lean, first. */
        void foresee(int whole) {
            for (int set = 0; set <= whole && set < ALL_SETS; set++) {
                if ((set & ~whole) == 0) {
                    foreseeSet(set, Integer.bitCount(set));
                }
            }
        }

        private void foreseeSet(int set, int n) {
            int first = NONE;
            int goes = NONE;
            for (int one = 0; one < MOST_INMATES; one++) {
                if (has(set, one)) {
                    goods[set * MOST_INMATES + one] = goodOf(one, set, n);
                }
            }
            for (int other = 0; other < MOST_INMATES; other++) {
                int band = has(set, other) ? lowest(foreseers(set, n, other), house.needed) : NONE;
                if (band != NONE && (goes == NONE || band < first)) {
                    first = band;
                    goes = other;
                }
            }
            left[set] = goes == NONE ? set : left[set & ~bit(goes)];
            goesFirst[set] = goes;
        }

        private int foreseers(int set, int n, int other) {
            int after = left[set & ~bit(other)];
            int bits = 0;
            for (int one = 0; one < MOST_INMATES; one++) {
                if (has(after, one)) {
                    int gain = goods[after * MOST_INMATES + one] - goods[set * MOST_INMATES + one];
                    if (moves(gain, one, other, n, has(house.oaths[other], one))) {
                        bits |= bit(one);
                    }
                }
            }
            return bits;
        }

        int savingOath(int one) {
            int friends = house.oaths[one];
            for (int other = 0; other < MOST_INMATES; other++) {
                if (isLookedPair(one, other) && !has(friends, other)
                    && Integer.bitCount(against(one, friends | bit(other))) < house.needed) {
                    return other;
                }
            }
            return NONE;
        }

        void findOaths() {
            oathsFound[0] = NONE;
            oathsFound[1] = NONE;
            oathsFound[2] = NONE;
            if (atRest()) {
                oathsFound[0] = 0;
                return;
            }
            if (!findOath(1, 0)) {
                findTwoOaths();
            }
        }

        private void findTwoOaths() {
            for (int pair = 0; pair < MOST_INMATES * MOST_INMATES; pair++) {
                if (isFreePair(pair)) {
                    bindPair(pair, true);
                    boolean found = findOath(2, pair + 1);
                    bindPair(pair, false);
                    if (found) {
                        oathsFound[1] = pairName(pair);
                        return;
                    }
                }
            }
        }

        /** Looks for the last oath, by which the house is at rest: the first pair from this on. */
        private boolean findOath(int number, int from) {
            for (int pair = from; pair < MOST_INMATES * MOST_INMATES; pair++) {
                if (isFreePair(pair)) {
                    bindPair(pair, true);
                    boolean rests = atRest();
                    bindPair(pair, false);
                    if (rests) {
                        oathsFound[0] = number;
                        oathsFound[number] = pairName(pair);
                        return true;
                    }
                }
            }
            return false;
        }

        private boolean isFreePair(int pair) {
            int one = pair / MOST_INMATES;
            int other = pair % MOST_INMATES;
            return one < other && isLookedPair(one, other) && !has(house.oaths[one], other);
        }

        private void bindPair(int pair, boolean is) {
            house.bind(pair / MOST_INMATES, pair % MOST_INMATES, is);
        }

        private static int pairName(int pair) {
            return 10 * (pair / MOST_INMATES) + pair % MOST_INMATES;
        }

        int leastNeeded() {
            for (int needed = LEAST_NEEDED; needed <= MOST_NEEDED; needed++) {
                house.needed = needed;
                if (atRest()) {
                    return needed;
                }
            }
            return NONE;
        }

        int leastRent() {
            boolean hangsOnShare = rule.names(SHARE);
            for (int rent = 0; rent < TRIED_RENTS; rent += RENT_STEP) {
                house.rent = rent;
                if (hangsOnShare) {
                    compare();
                }
                weigh();
                if (!atRest()) {
                    return rent;
                }
            }
            return NONE;
        }

        /** Follows those who go by a row; false: it tells none, or one who isn't in by then. */
        boolean follow(Sheet row) {
            followed[2] = NONE;
            for (int i = 0; i < row.size; i++) {
                int one = row.row[i];
                if (!house.isIn(one)) {
                    return false;
                }
                lookAt(house.in);
                followed[0] = bandsAgainst(one);
                followed[1] = firstBand(one);
                if (followed[0] == 0 && followed[2] == NONE) {
                    followed[2] = i;
                }
                house.leave(one);
                house.passDay();
            }
            return row.size > 0;
        }

        /** Who is in behind so many drawn days; once too few are left to meet, no one goes. */
        int draw(int seed, int days) {
            boolean hangsOnDays = rule.names(DAYS);
            int z = seed;
            listMeetings();
            lookAt(house.in);
            for (int i = 0; i < days && meetingCount > 0; i++) {
                z = z * 1103515245 + 12345;
                int goes = loserOf(meetings[(z >>> 9) % meetingCount]);
                house.passDay();
                if (goes != NONE) {
                    house.leave(goes);
                    listMeetings();
                }
                if (goes != NONE || hangsOnDays) {
                    lookAt(house.in);
                }
            }
            return house.in;
        }

        /** All sets of one more than are needed, of those who are in, by bits. */
        private void listMeetings() {
            meetingCount = 0;
            for (int set = 0; set < ALL_SETS; set++) {
                if ((set & ~house.in) == 0 && Integer.bitCount(set) == house.needed + 1
                    && meetingCount < MOST_MEETINGS) {
                    meetings[meetingCount] = set;
                    meetingCount++;
                }
            }
        }

        /** Whom the first band of a meeting turns out: the lesser its bits, the higher that one. */
        private int loserOf(int meeting) {
            for (int other = MOST_INMATES - 1; other >= 0; other--) {
                if (has(meeting, other) && wouldTurnOut(meeting & ~bit(other), other)) {
                    return other;
                }
            }
            return NONE;
        }
    }

    /** A row of numbers, or a missing one. */
    private static final class Sheet {
        static final int NO_SORT = -1;
        private static final int BYTES = 0, SHORTS = 1;
        final int[] row = new int[MOST_CELLS];
        int sort = NO_SORT;
        int size;

        void begin(int newSort, int n) {
            sort = newSort;
            size = n;
            Arrays.fill(row, 0);
        }

        boolean isMissing() {
            return sort == NO_SORT;
        }

        /** Whether n items from i on are all inside. */
        boolean reaches(int i, int n) {
            return i >= 0 && n >= 0 && n <= size && i <= size - n;
        }

        void write(int i, int v) {
            row[i] = sort == BYTES ? (byte) v : sort == SHORTS ? (short) v : v;
        }
    }
}
