/**
 * Chances enclosed by boxes: the spans of drawn numbers are split where that helps most, and the
 * odds of a question under a condition lie between two ends.
 *
 * <p>A double is held as its BITS everywhere: the rules of LANGUAGE.md leave neither NaN nor the
 * library's ways from BITS to a double and back, so that Numbers works the machine's arithmetic on
 * longs.
 */
public final class BoxIntegrals {
    public static final int UNKNOWN = -1, OUTSIDE = -2, STATE = -3, FULL = -4, NONE = -5;

    private static final int MOST_DRAWS = 3;
    private static final int MOST_NODES = 32;
    private static final int MOST_BOXES = 100;

    private static final int CONDITION = 0;
    private static final int QUESTION = 1;
    private static final int DENSITY = 2;

    private static final int OUT = 0;
    private static final int YES = 1;
    private static final int NO = 2;
    private static final int OPEN = 3;

    private final Formulas formulas;
    private final Cover cover;
    private final long[] spanLows;
    private final long[] spanHighs;
    private final int[] roles;
    private final long[] point;
    private int draws;
    /** The nodes that the roles rest on, a bit each: only these are enclosed when a box is settled. */
    private int roleNodes;

    public BoxIntegrals() {
        formulas = new Formulas();
        cover = new Cover();
        spanLows = new long[MOST_DRAWS];
        spanHighs = new long[MOST_DRAWS];
        roles = new int[DENSITY + MOST_DRAWS];
        point = new long[MOST_DRAWS];
        draws = 0;
        roleNodes = 0;
        dropRoles();
    }

    public int draw(long lo, long hi) {
        if (!Numbers.isFinite(lo) || !Numbers.isFinite(hi) || !Numbers.below(lo, hi)) {
            return OUTSIDE;
        }
        if (draws >= MOST_DRAWS) {
            return FULL;
        }
        spanLows[draws] = lo;
        spanHighs[draws] = hi;
        dropRoles();
        cover.end();
        draws++;
        return draws - 1;
    }

    public int node(int kind, int a, int b, long bits) {
        if (kind < 0 || kind > Formulas.LAST_KIND) {
            return OUTSIDE;
        }
        if (kind == Formulas.DRAWN && !isDraw(a)
                || Formulas.readsOne(kind) && !isNode(a)
                || Formulas.readsTwo(kind) && !isNode(b)) {
            return UNKNOWN;
        }
        if (formulas.size >= MOST_NODES) {
            return FULL;
        }
        return formulas.append(kind, a, b, bits);
    }

    public int role(int role, int node) {
        if (role < 0 || role >= DENSITY + draws) {
            return OUTSIDE;
        }
        if (node != NONE && !isNode(node)) {
            return UNKNOWN;
        }
        int before = roles[role];
        roles[role] = node;
        cover.end();
        return before;
    }

    public int begin() {
        if (draws == 0) {
            return STATE;
        }
        roleNodes = nodesOfRoles();
        cover.restart(spanLows, spanHighs, draws);
        settle(0);
        return draws;
    }

    public int run(int n) {
        if (n < 0 || n >= MOST_BOXES) {
            return OUTSIDE;
        }
        if (cover.size == 0) {
            return STATE;
        }
        if (cover.size >= MOST_BOXES) {
            return FULL;
        }
        int done = 0;
        while (done < n && cover.size < MOST_BOXES) {
            int box = cover.heaviestToSplit();
            if (box == NONE) {
                break;
            }
            int other = cover.split(box);
            settle(box);
            settle(other);
            done++;
        }
        return done;
    }

    public int boxes() {
        return cover.size;
    }

    public int kind(int box) {
        return isBox(box) ? cover.kinds[box] : UNKNOWN;
    }

    public long side(int box, int draw, int end) throws ArrayIndexOutOfBoundsException {
        if (!isBox(box) || !isDraw(draw) || !isEnd(end)) {
            throw new ArrayIndexOutOfBoundsException("no such box, draw or end");
        }
        int place = Cover.place(box, draw);
        return end == 0 ? cover.lows[place] : cover.highs[place];
    }

    public long weight(int box, int end) {
        if (!isBox(box) || !isEnd(end)) {
            return 0;
        }
        return end == 0 ? cover.lowWeights[box] : cover.highWeights[box];
    }

    public long enclosed(int box, int node, int end) {
        if (!isBox(box) || !isNode(node) || !isEnd(end)) {
            return 0;
        }
        formulas.enclose(formulas.restingOn(1 << node), cover.lows, cover.highs, Cover.place(box, 0));
        return end == 0 ? formulas.lows[node] : formulas.highs[node];
    }

    public long value(int node, long x, long y, long z) {
        if (!isNode(node)) {
            return 0;
        }
        setPoint(x, y, z);
        formulas.evaluate(formulas.restingOn(1 << node), point);
        return formulas.values[node];
    }

    public int within(int box, int node, long x, long y, long z) {
        if (!isBox(box) || !isNode(node)) {
            return UNKNOWN;
        }
        setPoint(x, y, z);
        if (!cover.holds(box, point)) {
            return 0;
        }
        int needed = formulas.restingOn(1 << node);
        formulas.evaluate(needed, point);
        formulas.enclose(needed, cover.lows, cover.highs, Cover.place(box, 0));
        long found = formulas.values[node];
        boolean inside = !Numbers.below(found, formulas.lows[node])
                && !Numbers.below(formulas.highs[node], found);
        return inside || Numbers.isNan(found) ? 2 : 1;
    }

    public int where(long x, long y, long z) {
        setPoint(x, y, z);
        for (int box = 0; box < cover.size; box++) {
            if (cover.holds(box, point)) {
                return box;
            }
        }
        return NONE;
    }

    public long mass(int kind, int end) {
        if (!isBoxKind(kind) || !isEnd(end) || cover.size == 0) {
            return 0;
        }
        return end == 0 ? cover.lowMass(kind) : cover.highMass(kind);
    }

    public long odds(int end) {
        if (!isEnd(end) || cover.size == 0) {
            return 0;
        }
        return end == 0 ? lowOdds() : highOdds();
    }

    public int share(int kind) throws ArithmeticException {
        if (!isBoxKind(kind)) {
            return OUTSIDE;
        }
        if (cover.size == 0) {
            return STATE;
        }
        int open = cover.howMany(OPEN);
        if (open == 0) {
            throw new ArithmeticException("no box is open");
        }
        return cover.howMany(kind) / open;
    }

    public int count(int what) {
        switch (what) {
            case 0:
                return draws;
            case 1:
                return formulas.size;
            case 2:
                return cover.size;
            case 3:
                return cover.steps;
            case 4:
                return cover.howManyStuck();
            default:
                return OUTSIDE;
        }
    }

    public int clear() {
        int before = formulas.size;
        formulas.size = 0;
        draws = 0;
        dropRoles();
        cover.end();
        return before;
    }

    private boolean isDraw(int draw) {
        return draw >= 0 && draw < draws;
    }

    private boolean isNode(int node) {
        return node >= 0 && node < formulas.size;
    }

    private boolean isBox(int box) {
        return box >= 0 && box < cover.size;
    }

    private static boolean isEnd(int end) {
        return end == 0 || end == 1;
    }

    private static boolean isBoxKind(int kind) {
        return kind >= OUT && kind <= OPEN;
    }

    private void dropRoles() {
        for (int i = 0; i < roles.length; i++) {
            roles[i] = NONE;
        }
    }

    private void setPoint(long x, long y, long z) {
        point[0] = Numbers.tidy(x);
        point[1] = Numbers.tidy(y);
        point[2] = Numbers.tidy(z);
    }

    private int nodesOfRoles() {
        int roots = 0;
        for (int i = 0; i < roles.length; i++) {
            if (roles[i] != NONE) {
                roots |= 1 << roles[i];
            }
        }
        return formulas.restingOn(roots);
    }

    /** Gives a box whose sides are new its kind, its weight and the place of its split. */
    private void settle(int box) {
        formulas.enclose(roleNodes, cover.lows, cover.highs, Cover.place(box, 0));
        cover.kinds[box] = judge();
        weigh(box);
        cover.findSplit(box);
    }

    /** The kind of the box over which the nodes have just been enclosed. */
    private int judge() {
        int condition = roles[CONDITION];
        int question = roles[QUESTION];
        if (holdsNever(condition)) {
            return OUT;
        }
        if (!holdsEverywhere(condition)) {
            return OPEN;
        }
        if (holdsEverywhere(question)) {
            return YES;
        }
        return holdsNever(question) ? NO : OPEN;
    }

    private boolean holdsEverywhere(int node) {
        return node == NONE || Numbers.below(Numbers.ZERO, formulas.lows[node]);
    }

    private boolean holdsNever(int node) {
        return node != NONE && !Numbers.below(Numbers.ZERO, formulas.highs[node]);
    }

    /** The weight of the box over which the nodes have just been enclosed. */
    private void weigh(int box) {
        long low = Numbers.ONE;
        long high = Numbers.ONE;
        for (int draw = 0; draw < draws; draw++) {
            long width = cover.width(box, draw);
            low = lowProduct(low, Numbers.down(width));
            high = highProduct(high, Numbers.up(width));
            int density = roles[DENSITY + draw];
            if (density != NONE) {
                low = lowProduct(low, formulas.lows[density]);
                high = highProduct(high, formulas.highs[density]);
            }
        }
        cover.lowWeights[box] = low;
        cover.highWeights[box] = high;
    }

    private static long lowProduct(long low, long factor) {
        long product = Numbers.down(Numbers.multiply(low, Numbers.notNegative(factor)));
        return Numbers.isNan(product) ? Numbers.ZERO : Numbers.notNegative(product);
    }

    private static long highProduct(long high, long factor) {
        long product = Numbers.up(Numbers.multiply(high, Numbers.notNegative(factor)));
        return Numbers.isNan(product) ? Numbers.INFINITE : product;
    }

    private long lowOdds() {
        long yes = cover.lowMass(YES);
        long yesOrNo = Numbers.up(Numbers.add(yes, cover.highMass(NO)));
        long all = Numbers.up(Numbers.add(yesOrNo, cover.highMass(OPEN)));
        long low = Numbers.down(Numbers.divide(yes, all));
        return Numbers.isNan(low) ? Numbers.ZERO : Numbers.notNegative(low);
    }

    private long highOdds() {
        long yesOrOpen = Numbers.up(Numbers.add(cover.highMass(YES), cover.highMass(OPEN)));
        long all = Numbers.down(Numbers.add(yesOrOpen, cover.lowMass(NO)));
        long high = Numbers.up(Numbers.divide(yesOrOpen, all));
        return Numbers.isNan(high) || Numbers.below(Numbers.ONE, high) ? Numbers.ONE : high;
    }

    /** The boxes of a run. A box's sides stand side by side, MOST_DRAWS places for each box. */
    private static final class Cover {
        final long[] lows = new long[MOST_BOXES * MOST_DRAWS];
        final long[] highs = new long[MOST_BOXES * MOST_DRAWS];
        final long[] lowWeights = new long[MOST_BOXES];
        final long[] highWeights = new long[MOST_BOXES];
        final int[] kinds = new int[MOST_BOXES];
        /** Of each box the side that a split would cut, where, and whether it is too narrow for that. */
        final int[] cutSides = new int[MOST_BOXES];
        final long[] cuts = new long[MOST_BOXES];
        final boolean[] tight = new boolean[MOST_BOXES];
        int sides = 0;
        int size = 0;
        int steps = 0;

        static int place(int box, int draw) {
            return box * MOST_DRAWS + draw;
        }

        void end() {
            size = 0;
            steps = 0;
        }

        void restart(long[] spanLows, long[] spanHighs, int draws) {
            for (int draw = 0; draw < draws; draw++) {
                lows[draw] = spanLows[draw];
                highs[draw] = spanHighs[draw];
            }
            sides = draws;
            size = 1;
            steps = 0;
        }

        boolean holds(int box, long[] point) {
            for (int draw = 0; draw < sides; draw++) {
                int place = place(box, draw);
                if (Numbers.isNan(point[draw])
                        || Numbers.below(point[draw], lows[place])
                        || Numbers.below(highs[place], point[draw])) {
                    return false;
                }
            }
            return true;
        }

        long width(int box, int draw) {
            int place = place(box, draw);
            return Numbers.add(highs[place], Numbers.negate(lows[place]));
        }

        void findSplit(int box) {
            int widest = 0;
            long most = width(box, 0);
            for (int draw = 1; draw < sides; draw++) {
                long width = width(box, draw);
                if (Numbers.below(most, width)) {
                    widest = draw;
                    most = width;
                }
            }
            int place = place(box, widest);
            long middle = Numbers.add(lows[place], Numbers.divide(most, Numbers.TWO));
            cutSides[box] = widest;
            cuts[box] = middle;
            tight[box] = !Numbers.below(lows[place], middle) || !Numbers.below(middle, highs[place]);
        }

        int heaviestToSplit() {
            int heaviest = NONE;
            for (int box = 0; box < size; box++) {
                if (kinds[box] == OPEN && !tight[box]
                        && (heaviest == NONE
                        || Numbers.below(highWeights[heaviest], highWeights[box]))) {
                    heaviest = box;
                }
            }
            return heaviest;
        }

        /** Splits a box and tells the new one, for which there is room; both are to be settled then. */
        int split(int box) {
            int other = size;
            for (int draw = 0; draw < sides; draw++) {
                lows[place(other, draw)] = lows[place(box, draw)];
                highs[place(other, draw)] = highs[place(box, draw)];
            }
            highs[place(box, cutSides[box])] = cuts[box];
            lows[place(other, cutSides[box])] = cuts[box];
            size++;
            steps++;
            return other;
        }

        int howMany(int kind) {
            int found = 0;
            for (int box = 0; box < size; box++) {
                if (kinds[box] == kind) {
                    found++;
                }
            }
            return found;
        }

        int howManyStuck() {
            int found = 0;
            for (int box = 0; box < size; box++) {
                if (kinds[box] == OPEN && tight[box]) {
                    found++;
                }
            }
            return found;
        }

        long lowMass(int kind) {
            long sum = Numbers.ZERO;
            for (int box = 0; box < size; box++) {
                if (kinds[box] == kind) {
                    sum = Numbers.notNegative(Numbers.down(Numbers.add(sum, lowWeights[box])));
                }
            }
            return sum;
        }

        long highMass(int kind) {
            long sum = Numbers.ZERO;
            for (int box = 0; box < size; box++) {
                if (kinds[box] == kind) {
                    sum = Numbers.up(Numbers.add(sum, highWeights[box]));
                }
            }
            return sum;
        }
    }

    /** The nodes, with rows for their values at a point and their enclosures over a box. */
    private static final class Formulas {
        static final int DRAWN = 0;
        static final int NUMBER = 1;
        static final int SUM = 2;
        static final int DIFFERENCE = 3;
        static final int PRODUCT = 4;
        static final int QUOTIENT = 5;
        static final int LEAST = 6;
        static final int GREATEST = 7;
        static final int ABSOLUTE = 8;
        static final int ROOT = 9;
        static final int SQUARE = 10;
        static final int FLOOR = 11;
        static final int NEGATIVE = 12;
        static final int AS_FLOAT = 13;
        static final int SIGN = 14;
        static final int AS_INT = 15;
        static final int AS_LONG = 16;
        static final int LAST_KIND = AS_LONG;

        final int[] kinds = new int[MOST_NODES];
        final int[] firsts = new int[MOST_NODES];
        final int[] seconds = new int[MOST_NODES];
        final long[] numbers = new long[MOST_NODES];
        final long[] values = new long[MOST_NODES];
        final long[] lows = new long[MOST_NODES];
        final long[] highs = new long[MOST_NODES];
        int size = 0;

        static boolean readsOne(int kind) {
            return kind >= SUM;
        }

        static boolean readsTwo(int kind) {
            return kind >= SUM && kind <= GREATEST;
        }

        /** Whether a node's ends are what the node makes of the ends of those that it reads. */
        static boolean takesEndsAsTheyAre(int kind) {
            return kind == LEAST || kind == GREATEST || kind == FLOOR || kind >= AS_FLOAT;
        }

        /** Adds a node, for which there is room. What its kind does not read is kept as 0, a safe index. */
        int append(int kind, int a, int b, long bits) {
            int node = size;
            kinds[node] = kind;
            firsts[node] = kind == NUMBER ? 0 : a;
            seconds[node] = readsTwo(kind) ? b : 0;
            numbers[node] = Numbers.tidy(bits);
            size++;
            return node;
        }

        /** The nodes of a set, a bit each, and all nodes that these read. */
        int restingOn(int nodes) {
            int found = nodes;
            for (int node = size - 1; node >= 0; node--) {
                if ((found >>> node & 1) == 0) {
                    continue;
                }
                if (readsOne(kinds[node])) {
                    found |= 1 << firsts[node];
                }
                if (readsTwo(kinds[node])) {
                    found |= 1 << seconds[node];
                }
            }
            return found;
        }

        void evaluate(int nodes, long[] point) {
            for (int node = 0; node < size; node++) {
                if ((nodes >>> node & 1) == 0) {
                    continue;
                }
                int kind = kinds[node];
                if (kind == DRAWN) {
                    values[node] = point[firsts[node]];
                } else if (kind == NUMBER) {
                    values[node] = numbers[node];
                } else {
                    values[node] = work(kind, values[firsts[node]], values[seconds[node]]);
                }
            }
        }

        /** What a node that reads others makes of their numbers. */
        static long work(int kind, long a, long b) {
            switch (kind) {
                case SUM:
                    return Numbers.add(a, b);
                case DIFFERENCE:
                    return Numbers.add(a, Numbers.negate(b));
                case PRODUCT:
                    return Numbers.multiply(a, b);
                case QUOTIENT:
                    return Numbers.divide(a, b);
                case LEAST:
                    return Numbers.least(a, b);
                case GREATEST:
                    return Numbers.greatest(a, b);
                case ABSOLUTE:
                    return Numbers.absolute(a);
                case ROOT:
                    return Numbers.root(a);
                case SQUARE:
                    return Numbers.multiply(a, a);
                case FLOOR:
                    return Numbers.floor(a);
                case NEGATIVE:
                    return Numbers.negate(a);
                case AS_FLOAT:
                    return Numbers.asFloat(a);
                case SIGN:
                    return Numbers.sign(a);
                case AS_INT:
                    return Numbers.asInt(a);
                default:
                    return Numbers.asLong(a);
            }
        }

        /** Encloses nodes of a set over the box whose sides stand at a place of the two rows. */
        void enclose(int nodes, long[] sideLows, long[] sideHighs, int place) {
            for (int node = 0; node < size; node++) {
                if ((nodes >>> node & 1) == 0) {
                    continue;
                }
                int kind = kinds[node];
                int a = firsts[node];
                int b = seconds[node];
                if (kind == DRAWN) {
                    setEnds(node, sideLows[place + a], sideHighs[place + a]);
                } else if (kind == NUMBER) {
                    setEnds(node, numbers[node], numbers[node]);
                } else if (takesEndsAsTheyAre(kind)) {
                    setEnds(node, work(kind, lows[a], lows[b]), work(kind, highs[a], highs[b]));
                } else {
                    encloseOutward(node, kind, a, b);
                }
            }
        }

        private void encloseOutward(int node, int kind, int a, int b) {
            long al = lows[a];
            long ah = highs[a];
            long bl = lows[b];
            long bh = highs[b];
            switch (kind) {
                case SUM:
                    setOutward(node, Numbers.add(al, bl), Numbers.add(ah, bh));
                    break;
                case DIFFERENCE:
                    setOutward(node, Numbers.add(al, Numbers.negate(bh)), Numbers.add(ah, Numbers.negate(bl)));
                    break;
                case QUOTIENT:
                    if (!Numbers.below(Numbers.ZERO, bl) && !Numbers.below(bh, Numbers.ZERO)) {
                        setWholeLine(node);
                        break;
                    }
                    setOutwardOfFour(node, Numbers.divide(al, bl), Numbers.divide(al, bh),
                            Numbers.divide(ah, bl), Numbers.divide(ah, bh));
                    break;
                case PRODUCT:
                    setOutwardOfFour(node, Numbers.multiply(al, bl), Numbers.multiply(al, bh),
                            Numbers.multiply(ah, bl), Numbers.multiply(ah, bh));
                    break;
                case ABSOLUTE:
                    setEnds(node, lowAbsolute(al, ah), highAbsolute(al, ah));
                    break;
                case ROOT:
                    if (Numbers.below(al, Numbers.ZERO)) {
                        setWholeLine(node);
                        break;
                    }
                    setOutwardNotNegative(node, Numbers.root(al), Numbers.root(ah));
                    break;
                case SQUARE:
                    long l = lowAbsolute(al, ah);
                    long h = highAbsolute(al, ah);
                    setOutwardNotNegative(node, Numbers.multiply(l, l), Numbers.multiply(h, h));
                    break;
                default:
                    setEnds(node, Numbers.negate(ah), Numbers.negate(al));
                    break;
            }
        }

        private static long lowAbsolute(long al, long ah) {
            if (!Numbers.below(al, Numbers.ZERO)) {
                return al;
            }
            return Numbers.below(Numbers.ZERO, ah) ? Numbers.ZERO : Numbers.negate(ah);
        }

        private static long highAbsolute(long al, long ah) {
            if (!Numbers.below(al, Numbers.ZERO)) {
                return ah;
            }
            return Numbers.below(Numbers.ZERO, ah)
                    ? Numbers.greatest(Numbers.negate(al), ah)
                    : Numbers.negate(al);
        }

        private void setOutwardOfFour(int node, long p, long q, long r, long s) {
            long least = Numbers.least(Numbers.least(p, q), Numbers.least(r, s));
            long greatest = Numbers.greatest(Numbers.greatest(p, q), Numbers.greatest(r, s));
            setEnds(node, Numbers.down(least), Numbers.up(greatest));
        }

        private void setOutward(int node, long low, long high) {
            setEnds(node, Numbers.down(low), Numbers.up(high));
        }

        private void setOutwardNotNegative(int node, long low, long high) {
            setEnds(node, Numbers.notNegative(Numbers.down(low)), Numbers.up(high));
        }

        private void setEnds(int node, long low, long high) {
            if (Numbers.isNan(low) || Numbers.isNan(high)) {
                setWholeLine(node);
                return;
            }
            lows[node] = low;
            highs[node] = high;
        }

        private void setWholeLine(int node) {
            lows[node] = Numbers.MINUS_INFINITE;
            highs[node] = Numbers.INFINITE;
        }
    }

    /**
     * Doubles as their BITS, worked as the machine works them: rounded to the nearest, of two as near
     * to the even one. Every NaN that goes in (but by tidy) and comes out is the one NAN.
     */
    private static final class Numbers {
        static final long ZERO = 0L;
        static final long ONE = 0x3FF0000000000000L;
        static final long TWO = 0x4000000000000000L;
        static final long INFINITE = 0x7FF0000000000000L;
        static final long MINUS_INFINITE = 0xFFF0000000000000L;
        private static final long NAN = 0x7FF8000000000000L;
        private static final long MINUS = 0x8000000000000000L;
        private static final long MAGNITUDE = 0x7FFFFFFFFFFFFFFFL;
        private static final long TINIEST = 1L;
        private static final long GREATEST_INT = 0x41DFFFFFFFC00000L;
        private static final long LEAST_INT = 0xC1E0000000000000L;
        private static final long TWO_TO_63 = 0x43E0000000000000L;
        private static final long MINUS_TWO_TO_63 = 0xC3E0000000000000L;
        private static final long TWO_TO_128 = 0x47F0000000000000L;

        private static final int FRACTION_BITS = 52;
        private static final long HIDDEN = 1L << FRACTION_BITS;
        /** The bits of a long above the hidden bit. */
        private static final int ABOVE_HIDDEN = 11;
        private static final int EXPONENT_MASK = 0x7FF;
        private static final int EXPONENT_BIAS = 1023;
        /** The exponent of the last bit of a significand is the exponent's field less this. */
        private static final int LAST_BIT_BIAS = EXPONENT_BIAS + FRACTION_BITS;
        /** Bits kept below the last bit until a result is rounded: a significand of 63 bits then. */
        private static final int SPARE = 10;

        static boolean isNan(long x) {
            return (x & MAGNITUDE) > INFINITE;
        }

        static boolean isFinite(long x) {
            return (x & MAGNITUDE) < INFINITE;
        }

        private static boolean isInfinite(long x) {
            return (x & MAGNITUDE) == INFINITE;
        }

        private static boolean isZero(long x) {
            return (x & MAGNITUDE) == 0;
        }

        static long tidy(long x) {
            return isNan(x) ? NAN : x;
        }

        static boolean below(long x, long y) {
            return !isNan(x) && !isNan(y) && inOrder(x) < inOrder(y);
        }

        /** A long that is less where the number is less; both zeros have the same one. */
        private static long inOrder(long x) {
            return x < 0 ? MINUS - x : x;
        }

        static long least(long x, long y) {
            if (isNan(x) || isNan(y)) {
                return NAN;
            }
            if (isZero(x) && isZero(y)) {
                return x | y;
            }
            return inOrder(x) <= inOrder(y) ? x : y;
        }

        static long greatest(long x, long y) {
            if (isNan(x) || isNan(y)) {
                return NAN;
            }
            if (isZero(x) && isZero(y)) {
                return x & y;
            }
            return inOrder(x) >= inOrder(y) ? x : y;
        }

        static long notNegative(long x) {
            return below(x, ZERO) ? ZERO : x;
        }

        static long negate(long x) {
            return isNan(x) ? NAN : x ^ MINUS;
        }

        static long absolute(long x) {
            return x & MAGNITUDE;
        }

        static long sign(long x) {
            if (isNan(x) || isZero(x)) {
                return x;
            }
            return withSign(x < 0, ONE);
        }

        static long up(long x) {
            if (isNan(x) || x == INFINITE) {
                return x;
            }
            if (isZero(x)) {
                return TINIEST;
            }
            return x > 0 ? x + 1 : x - 1;
        }

        static long down(long x) {
            if (isNan(x) || x == MINUS_INFINITE) {
                return x;
            }
            if (isZero(x)) {
                return TINIEST | MINUS;
            }
            return x > 0 ? x - 1 : x + 1;
        }

        static long add(long x, long y) {
            if (isNan(x) || isNan(y)) {
                return NAN;
            }
            if (isInfinite(x)) {
                return isInfinite(y) && x != y ? NAN : x;
            }
            if (isInfinite(y)) {
                return y;
            }
            if (isZero(x) && isZero(y)) {
                return x & y;
            }
            boolean inTurn = (x & MAGNITUDE) >= (y & MAGNITUDE);
            long big = inTurn ? x : y;
            long small = inTurn ? y : x;
            // one spare bit less than elsewhere, as the sum may need one bit more
            int spare = SPARE - 1;
            int exponent = exponent(big);
            long m = significand(big) << spare;
            long n = shiftKeepingTrace(significand(small) << spare, exponent - exponent(small));
            long sum = (big ^ small) < 0 ? m - n : m + n;
            return sum == 0 ? ZERO : rounded(big < 0, sum, exponent - spare);
        }

        static long multiply(long x, long y) {
            if (isNan(x) || isNan(y)) {
                return NAN;
            }
            boolean negative = (x ^ y) < 0;
            if (isInfinite(x) || isInfinite(y)) {
                return isZero(x) || isZero(y) ? NAN : withSign(negative, INFINITE);
            }
            if (isZero(x) || isZero(y)) {
                return withSign(negative, ZERO);
            }
            int half = 27;
            long mask = (1L << half) - 1;
            long m = full(x);
            long n = full(y);
            long low = (m & mask) * (n & mask);
            long middle = (m >>> half) * (n & mask) + (m & mask) * (n >>> half) + (low >>> half);
            long high = (m >>> half) * (n >>> half) + (middle >>> half);
            long rest = (middle & mask) << half | low & mask;
            // the product is high and then rest, 54 bits of it: take 11 more than high has
            long product = high << 11 | shiftKeepingTrace(rest, 2 * half - 11);
            return rounded(negative, product, fullExponent(x) + fullExponent(y) + 2 * half - 11);
        }

        static long divide(long x, long y) {
            if (isNan(x) || isNan(y) || isInfinite(x) && isInfinite(y) || isZero(x) && isZero(y)) {
                return NAN;
            }
            boolean negative = (x ^ y) < 0;
            if (isInfinite(x) || isZero(y)) {
                return withSign(negative, INFINITE);
            }
            if (isZero(x) || isInfinite(y)) {
                return withSign(negative, ZERO);
            }
            // y is no zero here, so that its full significand is none either
            long divisor = full(y);
            long quotient = full(x) / divisor;
            long rest = full(x) % divisor;
            int rounds = 6;
            for (int i = 0; i < rounds; i++) {
                rest <<= SPARE;
                quotient = quotient << SPARE | rest / divisor;
                rest %= divisor;
            }
            long traced = rest == 0 ? quotient : quotient | 1;
            return rounded(negative, traced, fullExponent(x) - fullExponent(y) - rounds * SPARE);
        }

        static long root(long x) {
            if (isNan(x) || isZero(x) || x == INFINITE) {
                return x;
            }
            if (x < 0) {
                return NAN;
            }
            int odd = fullExponent(x) & 1;
            long square = full(x) << odd;
            int exponent = fullExponent(x) - odd;
            // two bits of the square at a time give one of the root: 27 pairs, then 28 pairs of zeros
            long found = 0;
            long rest = 0;
            for (int shift = 52; shift >= -56; shift -= 2) {
                long pair = shift >= 0 ? square >>> shift & 3 : 0;
                rest = rest << 2 | pair;
                long trial = found << 2 | 1;
                found <<= 1;
                if (rest >= trial) {
                    rest -= trial;
                    found |= 1;
                }
            }
            long traced = found << 1 | (rest == 0 ? 0 : 1);
            return rounded(false, traced, (exponent - 56) / 2 - 1);
        }

        static long floor(long x) {
            int whole = wholeBits(x);
            if (isZero(x) || whole >= FRACTION_BITS) {
                return x;
            }
            if (whole < 0) {
                return x < 0 ? withSign(true, ONE) : ZERO;
            }
            long part = (HIDDEN >>> whole) - 1;
            return x < 0 ? x + part & ~part : x & ~part;
        }

        private static long cutToWhole(long x) {
            int whole = wholeBits(x);
            if (whole >= FRACTION_BITS) {
                return x;
            }
            return whole < 0 ? ZERO : x & ~((HIDDEN >>> whole) - 1);
        }

        static long asInt(long x) {
            if (isNan(x)) {
                return ZERO;
            }
            return least(greatest(cutToWhole(x), LEAST_INT), GREATEST_INT);
        }

        /** The greatest long becomes two to 63 on its way back to a double. */
        static long asLong(long x) {
            if (isNan(x)) {
                return ZERO;
            }
            return least(greatest(cutToWhole(x), MINUS_TWO_TO_63), TWO_TO_63);
        }

        static long asFloat(long x) {
            if (!isFinite(x) || isZero(x)) {
                return x;
            }
            // a float has 29 bits less, and more than these less where its own exponent ends
            int drop = Math.max(29, -149 - exponent(x));
            if (drop > FRACTION_BITS + 2) {
                return withSign(x < 0, ZERO);
            }
            long kept = nearestOnShift(significand(x), drop);
            if (kept == 0) {
                return withSign(x < 0, ZERO);
            }
            long result = rounded(x < 0, kept, exponent(x) + drop);
            return (result & MAGNITUDE) >= TWO_TO_128 ? withSign(x < 0, INFINITE) : result;
        }

        private static long withSign(boolean negative, long magnitude) {
            return negative ? magnitude | MINUS : magnitude;
        }

        /** How many of the fraction's bits stand before the point; below 0 for less than 1.0. */
        private static int wholeBits(long x) {
            return ((int) (x >>> FRACTION_BITS) & EXPONENT_MASK) - EXPONENT_BIAS;
        }

        private static int exponent(long x) {
            int field = (int) (x >>> FRACTION_BITS) & EXPONENT_MASK;
            return (field == 0 ? 1 : field) - LAST_BIT_BIAS;
        }

        private static long significand(long x) {
            long fraction = x & HIDDEN - 1;
            return (x & MAGNITUDE) < HIDDEN ? fraction : fraction | HIDDEN;
        }

        /** The significand, put up to all its 53 bits if the number (not a zero) is subnormal. */
        private static long full(long x) {
            long m = significand(x);
            return m << Long.numberOfLeadingZeros(m) - ABOVE_HIDDEN;
        }

        private static int fullExponent(long x) {
            return exponent(x) - (Long.numberOfLeadingZeros(significand(x)) - ABOVE_HIDDEN);
        }

        /** Shifts right; what falls off leaves a last bit 1, so that later rounding knows of it. */
        private static long shiftKeepingTrace(long m, int by) {
            if (by <= 0) {
                return m;
            }
            if (by > 62) {
                return m == 0 ? 0 : 1;
            }
            long lost = m & (1L << by) - 1;
            return m >>> by | (lost == 0 ? 0 : 1);
        }

        /** Shifts right by 1 to 62 to the nearest, of two as near to the even one. */
        private static long nearestOnShift(long m, int by) {
            long even = m >>> by & 1;
            return m + (1L << by - 1) - 1 + even >>> by;
        }

        /** The number nearest to m times two to the exponent, for an m above 0. */
        private static long rounded(boolean negative, long m, int exponent) {
            int lift = Long.numberOfLeadingZeros(m) - 1;
            long high = m << lift;
            int field = exponent - lift + SPARE + LAST_BIT_BIAS;
            if (field >= EXPONENT_MASK) {
                return withSign(negative, INFINITE);
            }
            if (field < 1) {
                high = shiftKeepingTrace(high, 1 - field);
                field = 1;
            }
            // adding lets the hidden bit, and a carry out of the fraction, step the exponent
            long magnitude = ((long) (field - 1) << FRACTION_BITS) + nearestOnShift(high, SPARE);
            return withSign(negative, magnitude);
        }
    }
}
