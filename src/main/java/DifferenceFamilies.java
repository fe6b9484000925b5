import java.util.Arrays;

/**
 * A workbench for difference families in products of two cyclic groups.
 *
 * <p>A set of elements is a long in which bit x stands for the element x. All rows are made once, with the object,
 * and used again by every call.
 */
public final class DifferenceFamilies {
    public static final int BAD_VALUE = -1;
    public static final int FULL = -2;
    public static final int NOT_POSSIBLE = -3;
    public static final int NONE = -4;

    private static final int MOST_ORDER = 40;
    private static final int BLOCKS = 6;
    private static final int MOST_FACTOR = 1000;
    private static final int MOST_INDEX = 20;
    private static final long ONLY_ZERO = 1L;

    private final Group group;
    private final long[] blocks;
    private final History history;
    private final Differences differences;
    private final Exchanges exchanges;
    private final Likeness likeness;
    private final Design design;
    private final Elimination elimination;
    private final Finder finder;
    private final Text text;
    private final Slot firstSlot;
    private final Slot secondSlot;
    private long hole;

    public DifferenceFamilies() {
        Group madeGroup = new Group();
        madeGroup.become(7, 1);
        Differences madeDifferences = new Differences(madeGroup);
        group = madeGroup;
        blocks = new long[BLOCKS];
        history = new History();
        differences = madeDifferences;
        exchanges = new Exchanges(madeGroup, madeDifferences);
        likeness = new Likeness(madeGroup);
        design = new Design(madeGroup);
        elimination = new Elimination(madeGroup);
        finder = new Finder(madeGroup);
        text = new Text(madeGroup);
        firstSlot = new Slot();
        secondSlot = new Slot();
        hole = ONLY_ZERO;
    }

    // ---- the group

    public int setGroup(int n, int m) {
        if (!Group.isPossible(n, m)) {
            return BAD_VALUE;
        }
        int previous = group.order;
        group.become(n, m);
        hole = ONLY_ZERO;
        Arrays.fill(blocks, 0L);
        history.forget();
        finder.forget();
        firstSlot.filled = false;
        secondSlot.filled = false;
        return previous;
    }

    public int order() {
        return group.order;
    }

    public int sum(int x, int y) {
        if (!isElement(x) || !isElement(y)) {
            return BAD_VALUE;
        }
        return group.plus(x, y);
    }

    public int multiple(int x, int t) {
        if (!isElement(x) || !isWithin(t, 0, MOST_FACTOR)) {
            return BAD_VALUE;
        }
        return group.times(x, t);
    }

    public int orderOf(int x) {
        if (!isElement(x)) {
            return BAD_VALUE;
        }
        return group.orders[x];
    }

    public int automorphisms() {
        return group.automorphismCount;
    }

    public int image(int automorphism, int x) {
        if (!isAutomorphism(automorphism) || !isElement(x)) {
            return BAD_VALUE;
        }
        return group.imageBy(automorphism, x);
    }

    public int setHole(int x, int y) {
        if (!isElement(x) || !isElement(y)) {
            return BAD_VALUE;
        }
        hole = group.subgroup(x, y);
        history.forget();
        return Long.bitCount(hole);
    }

    public long hole() {
        return hole;
    }

    // ---- base blocks

    public int put(int block, int x) {
        if (!isBlock(block) || !isElement(x)) {
            return BAD_VALUE;
        }
        if (holds(blocks[block], x)) {
            return NOT_POSSIBLE;
        }
        history.note(blocks);
        blocks[block] |= 1L << x;
        return Long.bitCount(blocks[block]);
    }

    public int take(int block, int x) {
        if (!isBlock(block) || !isElement(x)) {
            return BAD_VALUE;
        }
        if (!holds(blocks[block], x)) {
            return NOT_POSSIBLE;
        }
        history.note(blocks);
        blocks[block] &= ~(1L << x);
        return Long.bitCount(blocks[block]);
    }

    public int shift(int block, int g) {
        if (!isBlock(block) || !isElement(g)) {
            return BAD_VALUE;
        }
        history.note(blocks);
        blocks[block] = group.translate(blocks[block], g);
        return Long.bitCount(blocks[block]);
    }

    public int apply(int automorphism) {
        if (!isAutomorphism(automorphism)) {
            return BAD_VALUE;
        }
        history.note(blocks);
        return likeness.mapByAutomorphism(blocks, automorphism);
    }

    public int multiply(int t) {
        if (!isWithin(t, 1, MOST_FACTOR) || !group.isCoprime(t)) {
            return BAD_VALUE;
        }
        history.note(blocks);
        return likeness.mapByFactor(blocks, t);
    }

    public int exchange(int block, int x, int y) {
        if (!isBlock(block) || !isElement(x) || !isElement(y)) {
            return BAD_VALUE;
        }
        if (!holds(blocks[block], x) || holds(blocks[block], y)) {
            return NOT_POSSIBLE;
        }
        history.note(blocks);
        blocks[block] ^= (1L << x) | (1L << y);
        differences.tally(blocks);
        return differences.lack(hole, 1);
    }

    public int improve(int index) {
        if (!isWithin(index, 1, MOST_INDEX)) {
            return BAD_VALUE;
        }
        if (!exchanges.findBest(blocks, hole, index)) {
            return NONE;
        }
        history.note(blocks);
        blocks[exchanges.bestBlock] = exchanges.bestSet;
        return exchanges.bestLack;
    }

    public int undo() {
        if (history.size == 0) {
            return NOT_POSSIBLE;
        }
        history.bringBack(blocks);
        return history.size;
    }

    public long block(int block) {
        if (!isBlock(block)) {
            return BAD_VALUE;
        }
        return blocks[block];
    }

    public long normal(int block) {
        if (!isBlock(block)) {
            return BAD_VALUE;
        }
        return blocks[block] == 0L ? NONE : group.leastTranslate(blocks[block]);
    }

    public int stabilizer(int block) {
        if (!isBlock(block)) {
            return BAD_VALUE;
        }
        return blocks[block] == 0L ? NONE : group.fixingTranslates(blocks[block]);
    }

    public int blockSize() {
        int size = NONE;
        for (int block = 0; block < BLOCKS; block++) {
            int own = Long.bitCount(blocks[block]);
            if (own != 0 && size != NONE && own != size) {
                return NONE;
            }
            if (own != 0) {
                size = own;
            }
        }
        return size;
    }

    // ---- differences

    public int count(int d) {
        if (!isElement(d) || d == 0) {
            return BAD_VALUE;
        }
        differences.tally(blocks);
        return differences.counts[d];
    }

    public int covered() {
        differences.tally(blocks);
        return differences.positiveCounts();
    }

    public int greatestCount() {
        differences.tally(blocks);
        return differences.greatest();
    }

    public int index() {
        differences.tally(blocks);
        return differences.commonIndex(hole);
    }

    public int deficiency(int index) {
        if (!isWithin(index, 1, MOST_INDEX)) {
            return BAD_VALUE;
        }
        differences.tally(blocks);
        return differences.lack(hole, index);
    }

    // ---- symmetries

    public int isMultiplier(int t) {
        if (!isWithin(t, 1, group.order - 1)) {
            return BAD_VALUE;
        }
        return likeness.isKeptByFactor(blocks, t) ? 1 : 0;
    }

    public long multipliers() {
        return likeness.keepingFactors(blocks);
    }

    public int symmetries() {
        return likeness.keepingAutomorphisms(blocks);
    }

    public long canonical(int index) {
        if (index < 0) {
            return BAD_VALUE;
        }
        int length = likeness.findLeast(blocks);
        return index < length ? likeness.least[index] : NONE;
    }

    public int isEquivalent(int slot) {
        if (!isSlot(slot)) {
            return BAD_VALUE;
        }
        if (!slotAt(slot).filled) {
            return NOT_POSSIBLE;
        }
        return likeness.areAlike(blocks, slotAt(slot).kept) ? 1 : 0;
    }

    // ---- the design

    public int designBlocks() {
        design.develop(blocks);
        return design.size;
    }

    public long designBlock(int number) {
        design.develop(blocks);
        if (!isWithin(number, 0, design.size - 1)) {
            return BAD_VALUE;
        }
        return design.sets[number];
    }

    public int replication(int x) {
        if (!isElement(x)) {
            return BAD_VALUE;
        }
        design.develop(blocks);
        return design.blocksWith(1L << x);
    }

    public int pairs(int x, int y) {
        if (!isElement(x) || !isElement(y) || x == y) {
            return BAD_VALUE;
        }
        design.develop(blocks);
        return design.blocksWith((1L << x) | (1L << y));
    }

    public int intersections(int common) {
        if (!isWithin(common, 0, MOST_ORDER)) {
            return BAD_VALUE;
        }
        design.develop(blocks);
        return design.meetingsIn(common);
    }

    public int rank(int p) {
        if (p != 2 && p != 3 && p != 5 && p != 7) {
            return BAD_VALUE;
        }
        design.develop(blocks);
        return elimination.independentRows(design, p);
    }

    public int disjointBlocks() {
        design.develop(blocks);
        return design.disjointFromFirst();
    }

    // ---- search

    public int search(int size, int index, int blocks, int multiplier, int steps) {
        if (!isWithin(size, 2, Finder.MOST_SIZE) || !isWithin(index, 1, 9) || !isWithin(blocks, 1, Finder.MOST_BLOCKS)) {
            return BAD_VALUE;
        }
        if (!isWithin(multiplier, 1, group.order - 1) || !isWithin(steps, 1, Finder.MOST_STEPS)) {
            return BAD_VALUE;
        }
        if (!group.isCoprime(multiplier)) {
            return BAD_VALUE;
        }
        if (group.order > Finder.MOST_SEARCH_ORDER) {
            return NOT_POSSIBLE;
        }
        finder.setLimits(hole, index);
        finder.listCandidates(size, multiplier);
        finder.run(blocks, steps);
        return finder.solutions;
    }

    public int searchSteps() {
        return finder.stepsMade;
    }

    public int candidates() {
        return finder.candidateCount;
    }

    public int takeSolution() {
        if (finder.solutions == 0) {
            return NOT_POSSIBLE;
        }
        history.note(blocks);
        System.arraycopy(finder.firstSolution, 0, blocks, 0, BLOCKS);
        return filledBlocks();
    }

    // ---- text, slots, checksum

    public int append(int character) {
        if (!isWithin(character, 32, 126)) {
            return BAD_VALUE;
        }
        if (text.length >= Text.MOST_CHARACTERS) {
            return FULL;
        }
        text.characters[text.length] = (char) character;
        text.length++;
        return text.length;
    }

    public int clearText() {
        int length = text.length;
        text.length = 0;
        return length;
    }

    public int faultPosition() {
        text.parse();
        return text.fault;
    }

    public int read() {
        text.parse();
        if (text.fault != NONE) {
            return NOT_POSSIBLE;
        }
        history.note(blocks);
        System.arraycopy(text.sets, 0, blocks, 0, BLOCKS);
        return text.setCount;
    }

    public int keep(int slot) {
        if (!isSlot(slot)) {
            return BAD_VALUE;
        }
        slotAt(slot).fill(blocks, hole);
        return filledBlocks();
    }

    public int restore(int slot) {
        if (!isSlot(slot)) {
            return BAD_VALUE;
        }
        if (!slotAt(slot).filled) {
            return NOT_POSSIBLE;
        }
        System.arraycopy(slotAt(slot).kept, 0, blocks, 0, BLOCKS);
        hole = slotAt(slot).keptHole;
        history.forget();
        return filledBlocks();
    }

    public long checksum() {
        long h = 23L;
        h = 31L * h + order();
        h = 31L * h + automorphisms();
        h = 31L * h + hole();
        for (int block = 0; block < BLOCKS; block++) {
            h = 31L * h + blocks[block];
        }
        differences.tally(blocks);
        for (int d = 1; d < group.order; d++) {
            h = 31L * h + differences.counts[d];
        }
        h = 31L * h + multipliers();
        h = 31L * h + symmetries();
        int length = likeness.findLeast(blocks);
        for (int place = 0; place < length; place++) {
            h = 31L * h + likeness.least[place];
        }
        h = 31L * h + designBlocks();
        return 31L * h + rank(2);
    }

    private boolean isElement(int x) {
        return x >= 0 && x < group.order;
    }

    private boolean isAutomorphism(int number) {
        return number >= 0 && number < group.automorphismCount;
    }

    private static boolean isBlock(int block) {
        return block >= 0 && block < BLOCKS;
    }

    private static boolean isSlot(int slot) {
        return slot == 0 || slot == 1;
    }

    private Slot slotAt(int slot) {
        return slot == 0 ? firstSlot : secondSlot;
    }

    private static boolean isWithin(int value, int low, int high) {
        return value >= low && value <= high;
    }

    private static boolean holds(long set, int x) {
        return ((set >>> x) & 1L) != 0L;
    }

    private int filledBlocks() {
        int filled = 0;
        for (int block = 0; block < BLOCKS; block++) {
            if (blocks[block] != 0L) {
                filled++;
            }
        }
        return filled;
    }

    /** The group: its elements, the translates of its sets, and its automorphisms. */
    private static final class Group {
        // The group of order 25 that is no cyclic one has the most: 480.
        private static final int MOST_AUTOMORPHISMS = 480;

        private int n;
        private int m;
        private int order;
        private long everything;
        private long lastSeconds;
        private int automorphismCount;
        private final int[] first = new int[MOST_ORDER];
        private final int[] second = new int[MOST_ORDER];
        private final int[] orders = new int[MOST_ORDER];
        private final int[] trial = new int[MOST_ORDER];
        // An automorphism is given by the images of (1, 0) and (0, 1).
        private final int[] imagesOfFirst = new int[MOST_AUTOMORPHISMS];
        private final int[] imagesOfSecond = new int[MOST_AUTOMORPHISMS];

        static boolean isPossible(int n, int m) {
            // Both are bounded before they are multiplied, so that the product cannot overflow.
            return n >= 2 && m >= 1 && n <= MOST_ORDER && m <= MOST_ORDER && n * m <= MOST_ORDER;
        }

        void become(int newN, int newM) {
            n = newN;
            m = newM;
            order = newN * newM;
            everything = (1L << order) - 1L;
            lastSeconds = 0L;
            for (int a = 0; a < n; a++) {
                for (int b = 0; b < m; b++) {
                    first[m * a + b] = a;
                    second[m * a + b] = b;
                }
                lastSeconds |= 1L << (m * a + m - 1);
            }
            for (int x = 0; x < order; x++) {
                orders[x] = findOrder(x);
            }
            listAutomorphisms();
        }

        private int findOrder(int x) {
            int t = 1;
            int reached = x;
            while (t < order && reached != 0) {
                reached = plus(reached, x);
                t++;
            }
            return t;
        }

        // The images of the elements below m follow from that of (0, 1), the others from that of (1, 0) too; so this
        // order of the pairs of images is the lexicographic one of the automorphisms.
        private void listAutomorphisms() {
            automorphismCount = 0;
            for (int ofSecond = 0; ofSecond < order; ofSecond++) {
                if (orders[ofSecond] == m) {
                    for (int ofFirst = 0; ofFirst < order; ofFirst++) {
                        if (orders[ofFirst] == n) {
                            listIfAutomorphism(ofFirst, ofSecond);
                        }
                    }
                }
            }
        }

        private void listIfAutomorphism(int ofFirst, int ofSecond) {
            fillMap(ofFirst, ofSecond, trial);
            if (mapped(everything, trial) == everything && automorphismCount < MOST_AUTOMORPHISMS) {
                imagesOfFirst[automorphismCount] = ofFirst;
                imagesOfSecond[automorphismCount] = ofSecond;
                automorphismCount++;
            }
        }

        private void fillMap(int ofFirst, int ofSecond, int[] map) {
            map[0] = 0;
            for (int x = 1; x < order; x++) {
                map[x] = second[x] > 0 ? plus(map[x - 1], ofSecond) : plus(map[x - m], ofFirst);
            }
        }

        void fillAutomorphism(int automorphism, int[] map) {
            fillMap(imagesOfFirst[automorphism], imagesOfSecond[automorphism], map);
        }

        void fillMultiples(int t, int[] map) {
            for (int x = 0; x < order; x++) {
                map[x] = times(x, t);
            }
        }

        int imageBy(int automorphism, int x) {
            int ofFirst = times(imagesOfFirst[automorphism], first[x]);
            int ofSecond = times(imagesOfSecond[automorphism], second[x]);
            return plus(ofFirst, ofSecond);
        }

        int plus(int x, int y) {
            int a = first[x] + first[y];
            int b = second[x] + second[y];
            return m * (a < n ? a : a - n) + (b < m ? b : b - m);
        }

        int times(int x, int t) {
            int result = 0;
            int doubled = x;
            for (int rest = t; rest > 0; rest >>= 1) {
                if ((rest & 1) != 0) {
                    result = plus(result, doubled);
                }
                doubled = plus(doubled, doubled);
            }
            return result;
        }

        boolean isCoprime(int t) {
            for (int divisor = 2; divisor <= order; divisor++) {
                if (t % divisor == 0 && order % divisor == 0) {
                    return false;
                }
            }
            return true;
        }

        long subgroup(int x, int y) {
            long set = 0L;
            int start = 0;
            for (int i = 0; i < orders[x]; i++) {
                int reached = start;
                for (int j = 0; j < orders[y]; j++) {
                    set |= 1L << reached;
                    reached = plus(reached, y);
                }
                start = plus(start, x);
            }
            return set;
        }

        long mapped(long set, int[] map) {
            long result = 0L;
            for (int x = 0; x < order; x++) {
                if (holds(set, x)) {
                    result |= 1L << map[x];
                }
            }
            return result;
        }

        long translate(long set, int g) {
            long result = 0L;
            for (int x = 0; x < order; x++) {
                if (holds(set, x)) {
                    result |= 1L << plus(x, g);
                }
            }
            return result;
        }

        /** From the translate of a set by g, makes its translate by g + 1 (by 0 behind the last element). */
        long onward(long moved, int g) {
            long next = ((moved & ~lastSeconds) << 1) | ((moved & lastSeconds) >>> (m - 1));
            if (second[g] < m - 1) {
                return next;
            }
            return ((next << m) | (next >>> (order - m))) & everything;
        }

        long leastTranslate(long set) {
            long least = set;
            long moved = set;
            for (int g = 0; g < order; g++) {
                moved = onward(moved, g);
                least = Math.min(least, moved);
            }
            return least;
        }

        boolean isLeastTranslate(long set) {
            long moved = set;
            for (int g = 0; g < order; g++) {
                moved = onward(moved, g);
                if (moved < set) {
                    return false;
                }
            }
            return true;
        }

        int fixingTranslates(long set) {
            int fixing = 0;
            long moved = set;
            for (int g = 0; g < order; g++) {
                moved = onward(moved, g);
                if (moved == set) {
                    fixing++;
                }
            }
            return fixing;
        }
    }

    /** The latest states of the base blocks, the oldest one first. */
    private static final class History {
        private static final int MOST_STATES = 5;

        private final long[] states = new long[MOST_STATES * BLOCKS];
        private int size;

        void forget() {
            size = 0;
        }

        void note(long[] blocks) {
            if (size == MOST_STATES) {
                System.arraycopy(states, BLOCKS, states, 0, (MOST_STATES - 1) * BLOCKS);
                size--;
            }
            System.arraycopy(blocks, 0, states, size * BLOCKS, BLOCKS);
            size++;
        }

        void bringBack(long[] blocks) {
            if (size > 0) {
                size--;
                System.arraycopy(states, size * BLOCKS, blocks, 0, BLOCKS);
            }
        }
    }

    /** What a slot keeps. */
    private static final class Slot {
        private final long[] kept = new long[BLOCKS];
        private long keptHole;
        private boolean filled;

        void fill(long[] blocks, long hole) {
            System.arraycopy(blocks, 0, kept, 0, BLOCKS);
            keptHole = hole;
            filled = true;
        }
    }

    /** The counts of the differences. */
    private static final class Differences {
        private final Group group;
        private final int[] counts = new int[MOST_ORDER];

        Differences(Group group) {
            this.group = group;
        }

        void tally(long[] blocks) {
            Arrays.fill(counts, 0);
            for (int block = 0; block < BLOCKS; block++) {
                addCounts(blocks[block], 1);
            }
        }

        void addCounts(long set, int sign) {
            long moved = set;
            for (int d = 1; d < group.order; d++) {
                moved = group.onward(moved, d - 1);
                counts[d] += sign * Long.bitCount(set & moved);
            }
        }

        int lack(long hole, int index) {
            return lackWith(0L, hole, index);
        }

        /** The deficiency that the counts have when a set joins the blocks. */
        int lackWith(long set, long hole, int index) {
            int lack = 0;
            long moved = set;
            for (int d = 1; d < group.order; d++) {
                moved = group.onward(moved, d - 1);
                int count = counts[d] + Long.bitCount(set & moved);
                lack += holds(hole, d) ? count : Math.abs(count - index);
            }
            return lack;
        }

        int positiveCounts() {
            int positive = 0;
            for (int d = 1; d < group.order; d++) {
                if (counts[d] > 0) {
                    positive++;
                }
            }
            return positive;
        }

        int greatest() {
            int greatest = 0;
            for (int d = 1; d < group.order; d++) {
                greatest = Math.max(greatest, counts[d]);
            }
            return greatest;
        }

        int commonIndex(long hole) {
            int common = 0;
            for (int d = 1; d < group.order; d++) {
                if (holds(hole, d)) {
                    if (counts[d] != 0) {
                        return NONE;
                    }
                } else if (counts[d] == 0 || common != 0 && counts[d] != common) {
                    return NONE;
                } else {
                    common = counts[d];
                }
            }
            return common == 0 ? NONE : common;
        }
    }

    /** The best exchange of an element of a base block for another one. */
    private static final class Exchanges {
        private final Group group;
        private final Differences differences;
        private int bestBlock;
        private long bestSet;
        private int bestLack;

        Exchanges(Group group, Differences differences) {
            this.group = group;
            this.differences = differences;
        }

        boolean findBest(long[] blocks, long hole, int index) {
            differences.tally(blocks);
            int lackBefore = differences.lack(hole, index);
            bestLack = lackBefore;
            for (int block = 0; block < BLOCKS; block++) {
                // While its exchanges are tried, the counts are those of the other blocks.
                differences.addCounts(blocks[block], -1);
                tryAll(block, blocks[block], hole, index);
                differences.addCounts(blocks[block], 1);
            }
            return bestLack < lackBefore;
        }

        private void tryAll(int block, long set, long hole, int index) {
            for (int x = 0; x < group.order; x++) {
                if (holds(set, x)) {
                    tryFor(block, set & ~(1L << x), set, hole, index);
                }
            }
        }

        private void tryFor(int block, long rest, long set, long hole, int index) {
            for (int y = 0; y < group.order; y++) {
                if (!holds(set, y)) {
                    int lack = differences.lackWith(rest | (1L << y), hole, index);
                    if (lack < bestLack) {
                        bestLack = lack;
                        bestBlock = block;
                        bestSet = rest | (1L << y);
                    }
                }
            }
        }
    }

    /** The images of families, their symmetries and their canonical forms. */
    private static final class Likeness {
        private final Group group;
        private final int[] map = new int[MOST_ORDER];
        private final long[] own = new long[BLOCKS];
        private final long[] other = new long[BLOCKS];
        private final long[] least = new long[BLOCKS];

        Likeness(Group group) {
            this.group = group;
        }

        int mapByAutomorphism(long[] blocks, int automorphism) {
            group.fillAutomorphism(automorphism, map);
            return mapAll(blocks);
        }

        int mapByFactor(long[] blocks, int t) {
            group.fillMultiples(t, map);
            return mapAll(blocks);
        }

        private int mapAll(long[] blocks) {
            int changed = 0;
            for (int block = 0; block < BLOCKS; block++) {
                long mapped = group.mapped(blocks[block], map);
                if (mapped != blocks[block]) {
                    changed++;
                }
                blocks[block] = mapped;
            }
            return changed;
        }

        boolean isKeptByFactor(long[] blocks, int t) {
            int length = listSame(blocks, own);
            return group.isCoprime(t) && isOwnByFactor(blocks, t, length);
        }

        long keepingFactors(long[] blocks) {
            int length = listSame(blocks, own);
            long factors = 0L;
            for (int t = 1; t < group.order; t++) {
                if (group.isCoprime(t) && isOwnByFactor(blocks, t, length)) {
                    factors |= 1L << t;
                }
            }
            return factors;
        }

        private boolean isOwnByFactor(long[] blocks, int t, int length) {
            group.fillMultiples(t, map);
            listImage(blocks, other);
            return compareLists(other, own, length) == 0;
        }

        int keepingAutomorphisms(long[] blocks) {
            int length = listSame(blocks, own);
            int keeping = 0;
            for (int automorphism = 0; automorphism < group.automorphismCount; automorphism++) {
                group.fillAutomorphism(automorphism, map);
                listImage(blocks, other);
                if (compareLists(other, own, length) == 0) {
                    keeping++;
                }
            }
            return keeping;
        }

        /** Puts the canonical form into the row least, and returns its length. */
        int findLeast(long[] blocks) {
            int length = listSame(blocks, least);
            for (int automorphism = 0; automorphism < group.automorphismCount; automorphism++) {
                group.fillAutomorphism(automorphism, map);
                listImage(blocks, other);
                if (compareLists(other, least, length) < 0) {
                    System.arraycopy(other, 0, least, 0, BLOCKS);
                }
            }
            return length;
        }

        // Two families have the same canonical form just if one of them is an image of the other.
        boolean areAlike(long[] blocks, long[] keptBlocks) {
            int length = listSame(keptBlocks, own);
            if (listSame(blocks, other) != length) {
                return false;
            }
            for (int automorphism = 0; automorphism < group.automorphismCount; automorphism++) {
                group.fillAutomorphism(automorphism, map);
                listImage(blocks, other);
                if (compareLists(other, own, length) == 0) {
                    return true;
                }
            }
            return false;
        }

        private int listSame(long[] blocks, long[] list) {
            group.fillMultiples(1, map);
            return listImage(blocks, list);
        }

        private int listImage(long[] blocks, long[] list) {
            int length = 0;
            for (int block = 0; block < BLOCKS; block++) {
                if (blocks[block] != 0L) {
                    long form = group.leastTranslate(group.mapped(blocks[block], map));
                    insertAscending(list, length, form);
                    length++;
                }
            }
            return length;
        }

        private static void insertAscending(long[] list, int length, long form) {
            int place = length;
            while (place > 0 && list[place - 1] > form) {
                list[place] = list[place - 1];
                place--;
            }
            list[place] = form;
        }

        private static int compareLists(long[] one, long[] two, int length) {
            for (int place = 0; place < length; place++) {
                if (one[place] != two[place]) {
                    return Long.compare(one[place], two[place]);
                }
            }
            return 0;
        }
    }

    /** The translates of the base blocks. */
    private static final class Design {
        private final Group group;
        private final long[] sets = new long[BLOCKS * MOST_ORDER];
        private int size;

        Design(Group group) {
            this.group = group;
        }

        void develop(long[] blocks) {
            size = 0;
            for (int block = 0; block < BLOCKS; block++) {
                if (blocks[block] != 0L) {
                    addTranslates(blocks[block]);
                }
            }
        }

        private void addTranslates(long set) {
            int start = size;
            long moved = set;
            for (int g = 0; g < group.order; g++) {
                if (!isListedFrom(start, moved)) {
                    sets[size] = moved;
                    size++;
                }
                moved = group.onward(moved, g);
            }
        }

        private boolean isListedFrom(int start, long set) {
            for (int number = start; number < size; number++) {
                if (sets[number] == set) {
                    return true;
                }
            }
            return false;
        }

        int blocksWith(long elements) {
            int with = 0;
            for (int number = 0; number < size; number++) {
                if ((sets[number] & elements) == elements) {
                    with++;
                }
            }
            return with;
        }

        int meetingsIn(int common) {
            int meetings = 0;
            for (int number = 1; number < size; number++) {
                for (int earlier = 0; earlier < number; earlier++) {
                    if (Long.bitCount(sets[number] & sets[earlier]) == common) {
                        meetings++;
                    }
                }
            }
            return meetings;
        }

        // A block that meets those found before meets them later too, so one pass finds all.
        int disjointFromFirst() {
            int found = 0;
            long used = 0L;
            for (int number = 0; number < size; number++) {
                if ((sets[number] & used) == 0L) {
                    used |= sets[number];
                    found++;
                }
            }
            return found;
        }
    }

    /** The rank of an incidence matrix modulo a prime number. */
    private static final class Elimination {
        private final Group group;
        private final int[] row = new int[MOST_ORDER];
        // The row of the basis whose first entry other than 0 is a 1 in column c begins at c * MOST_ORDER.
        private final int[] basis = new int[MOST_ORDER * MOST_ORDER];
        private long leads;

        Elimination(Group group) {
            this.group = group;
        }

        int independentRows(Design design, int p) {
            leads = 0L;
            int independent = 0;
            for (int number = 0; number < design.size && independent < group.order; number++) {
                for (int c = 0; c < group.order; c++) {
                    row[c] = holds(design.sets[number], c) ? 1 : 0;
                }
                if (joinsBasis(p)) {
                    independent++;
                }
            }
            return independent;
        }

        private boolean joinsBasis(int p) {
            for (int c = 0; c < group.order; c++) {
                if (row[c] != 0) {
                    if (!holds(leads, c)) {
                        addToBasis(c, p);
                        return true;
                    }
                    clearColumn(c, p);
                }
            }
            return false;
        }

        private void addToBasis(int lead, int p) {
            int factor = inverse(row[lead], p);
            for (int c = 0; c < group.order; c++) {
                basis[lead * MOST_ORDER + c] = remainder(row[c] * factor, p);
            }
            leads |= 1L << lead;
        }

        private void clearColumn(int lead, int p) {
            int factor = p - row[lead];
            for (int c = lead; c < group.order; c++) {
                row[c] = remainder(row[c] + factor * basis[lead * MOST_ORDER + c], p);
            }
        }

        private static int inverse(int value, int p) {
            for (int factor = 1; factor < p; factor++) {
                if (remainder(value * factor, p) == 1) {
                    return factor;
                }
            }
            return 1;
        }

        private static int remainder(int value, int p) {
            return p > 0 ? value % p : 0;
        }
    }

    /** The search for families. */
    private static final class Finder {
        private static final int MOST_SIZE = 5;
        private static final int MOST_BLOCKS = 4;
        private static final int MOST_STEPS = 5000;
        private static final int MOST_SEARCH_ORDER = 25;
        // There are 53130 sets of 5 of 25 elements; in the group that is no cyclic one, 2130 of them are normal forms.
        private static final int MOST_SETS = 53130;
        private static final int MOST_CANDIDATES = 2130;

        private final Group group;
        private final long[] found = new long[MOST_CANDIDATES];
        private final int[] map = new int[MOST_ORDER];
        private final int[] limits = new int[MOST_ORDER];
        // The counts of the list of the first k candidates begin at k * MOST_ORDER; those of the empty list stay 0.
        private final int[] counts = new int[(MOST_BLOCKS + 1) * MOST_ORDER];
        private final int[] nextTry = new int[MOST_BLOCKS];
        private final long[] chosen = new long[MOST_BLOCKS];
        private final long[] firstSolution = new long[BLOCKS];
        private int candidateCount;
        private int stepsMade;
        private int solutions;

        Finder(Group group) {
            this.group = group;
        }

        void forget() {
            candidateCount = 0;
            stepsMade = 0;
            solutions = 0;
        }

        void setLimits(long hole, int index) {
            for (int d = 0; d < group.order; d++) {
                limits[d] = holds(hole, d) ? 0 : index;
            }
        }

        void listCandidates(int size, int multiplier) {
            candidateCount = 0;
            group.fillMultiples(multiplier, map);
            long end = 1L << possibleBits(size);
            long set = (1L << size) - 1L;
            for (int tried = 0; tried < MOST_SETS && set < end; tried++) {
                if (isCandidate(set) && candidateCount < MOST_CANDIDATES) {
                    found[candidateCount] = set;
                    candidateCount++;
                }
                set = nextOfSameSize(set);
            }
        }

        // The first numbers that do not occur in a set lie in at most size runs around the cycle, so one run has
        // (n - 1) / size of them or more; the translate that moves this run to the end leaves that many rows free, and
        // so does the least translate.
        private int possibleBits(int size) {
            int free = size > 0 ? (group.n - 1) / size : 0;
            return group.m * (group.n - free);
        }

        private boolean isCandidate(long set) {
            return group.isLeastTranslate(set) && group.leastTranslate(group.mapped(set, map)) == set;
        }

        // The lowest run of ones gives its last one to the next place, and the others go down to the end.
        private static long nextOfSameSize(long set) {
            long lowest = set & -set;
            long carried = set + lowest;
            int down = Long.bitCount(lowest - 1L) + 2;
            return carried | ((carried ^ set) >>> down);
        }

        void run(int blocks, int mostSteps) {
            stepsMade = 0;
            solutions = 0;
            Arrays.fill(firstSolution, 0L);
            nextTry[0] = 0;
            int length = 0;
            // Each turn is a step or a return to a shorter list, and every return but the last one undoes a step.
            int mostTurns = 2 * mostSteps + 1;
            for (int turn = 0; turn < mostTurns && length >= 0 && stepsMade < mostSteps; turn++) {
                if (nextTry[length] < candidateCount) {
                    length = tryNext(length, blocks);
                } else {
                    length--;
                }
            }
        }

        /** Tries to append the next candidate to the list of a length, and returns the length from which to go on. */
        private int tryNext(int length, int blocks) {
            int candidate = nextTry[length];
            nextTry[length]++;
            stepsMade++;
            chosen[length] = found[candidate];
            if (!fits(length, found[candidate])) {
                return length;
            }
            if (length + 1 < blocks) {
                nextTry[length + 1] = candidate;
                return length + 1;
            }
            if (isComplete(blocks)) {
                noteSolution(blocks);
            }
            return length;
        }

        private boolean fits(int length, long set) {
            int before = length * MOST_ORDER;
            int after = before + MOST_ORDER;
            long moved = set;
            for (int d = 1; d < group.order; d++) {
                moved = group.onward(moved, d - 1);
                int count = counts[before + d] + Long.bitCount(set & moved);
                if (count > limits[d]) {
                    return false;
                }
                counts[after + d] = count;
            }
            return true;
        }

        private boolean isComplete(int length) {
            for (int d = 1; d < group.order; d++) {
                if (counts[length * MOST_ORDER + d] != limits[d]) {
                    return false;
                }
            }
            return true;
        }

        private void noteSolution(int length) {
            if (solutions == 0) {
                System.arraycopy(chosen, 0, firstSolution, 0, length);
            }
            solutions++;
        }
    }

    /** The text buffer and its reading. */
    private static final class Text {
        private static final int MOST_CHARACTERS = 160;
        private static final int GREAT = 1000;

        private final Group group;
        private final char[] characters = new char[MOST_CHARACTERS];
        private final long[] sets = new long[BLOCKS];
        private int length;
        private int setCount;
        private int position;
        private int fault;

        Text(Group group) {
            this.group = group;
        }

        /** Puts the blocks of the text into sets, and its fault position, or NONE, into fault. */
        void parse() {
            Arrays.fill(sets, 0L);
            setCount = 0;
            position = 0;
            fault = NONE;
            for (int block = 0; block < BLOCKS && fault == NONE && position < length; block++) {
                parseBlock();
            }
            if (fault == NONE && position < length) {
                fault = position;
            }
        }

        private void parseBlock() {
            long set = 0L;
            // An element and its separator have two characters at least, so there are fewer elements than characters.
            for (int element = 0; element < MOST_CHARACTERS; element++) {
                int start = position;
                int x = parseElement();
                if (x < 0) {
                    return;
                }
                if (holds(set, x)) {
                    fault = start;
                    return;
                }
                set |= 1L << x;
                if (isNext(';')) {
                    position++;
                    sets[setCount] = set;
                    setCount++;
                    return;
                }
                if (!isNext(',')) {
                    fault = position;
                    return;
                }
                position++;
            }
        }

        /** Returns the element at the position, or -1 behind a fault. */
        private int parseElement() {
            int a = parseNumber(group.n);
            if (a < 0 || group.m == 1) {
                return a;
            }
            if (!isNext('.')) {
                fault = position;
                return -1;
            }
            position++;
            int b = parseNumber(group.m);
            return b < 0 ? -1 : group.m * a + b;
        }

        /** Returns the number at the position, which is below a limit, or -1 behind a fault. */
        private int parseNumber(int limit) {
            int start = position;
            if (!isNextDigit()) {
                fault = position;
                return -1;
            }
            if (isNext('0')) {
                position++;
                return 0;
            }
            int value = 0;
            while (position < length && isNextDigit()) {
                // Kept small: a number of many digits is only known to be too great.
                value = Math.min(10 * value + characters[position] - '0', GREAT);
                position++;
            }
            if (value >= limit) {
                fault = start;
                return -1;
            }
            return value;
        }

        private boolean isNext(char character) {
            return position < length && characters[position] == character;
        }

        private boolean isNextDigit() {
            return position < length && characters[position] >= '0' && characters[position] <= '9';
        }
    }
}
