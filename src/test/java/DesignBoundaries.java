/** 'The design', and promises 33 to 39. */
final class DesignBoundaries {
    private static final int BAD_VALUE = DifferenceFamilies.BAD_VALUE;

    private final Boundaries b;

    DesignBoundaries(Boundaries b) {
        this.b = b;
    }

    void run() {
        designs();
        designBlocks();
        replications();
        pairs();
        intersections();
        ranks();
        disjointBlocks();
    }

    private static DifferenceFamilies wholeBlocks(int count) {
        DifferenceFamilies x = States.group(40, 1);
        for (int block = 0; block < count; block++) {
            for (int e = 0; e < 40; e++) {
                x.put(block, e);
            }
        }
        return x;
    }

    private void designs() {
        b.test(34, "in the order of their numbers, its translates by 0, 1, .., v - 1", this::orderOfTheDesign);
        b.test(33, "a translate that is equal to an earlier one of the same base block is left out",
                this::equalTranslates);
        b.test(34, "Its blocks are numbered from 0 in this order", this::numbersInTheDesign);
        b.test(38, "Its incidence matrix has a row for each of its blocks and a column for each element",
                this::rowsAndColumns);
    }

    private void design(DifferenceFamilies x, long... due) {
        b.due("designBlocks()", x.designBlocks(), due.length);
        for (int number = 0; number < due.length; number++) {
            b.due("designBlock(" + number + ")", x.designBlock(number), due[number]);
        }
        b.due("designBlock(" + due.length + ")", x.designBlock(due.length), BAD_VALUE);
    }

    private void orderOfTheDesign() {
        DifferenceFamilies x = States.group(3, 1);
        Check.putAll(x, 5, 0, 2);
        Check.putAll(x, 1, 1);
        design(x, 2, 4, 1, 5, 3, 6);
        // By (0, 0), (0, 1), (0, 2), (1, 0), ..
        design(States.family(2, 3, 5, 0), Check.set(5, 0), Check.set(3, 1), Check.set(4, 2), Check.set(2, 3),
                Check.set(0, 4), Check.set(1, 5));
    }

    private void equalTranslates() {
        design(States.family(6, 1, 1, 4), Check.set(1, 4), Check.set(2, 5), Check.set(3, 0));
        design(States.family(2, 1, 0, 1), 3);
        design(wholeBlocks(1), (1L << 40) - 1);
        // Translates by (0, 0) and (1, 1) are equal, those by (0, 1) and (1, 0) too.
        design(States.family(2, 2, 0, 3), Check.set(0, 3), Check.set(1, 2));
        // Of another base block, it is not left out.
        DifferenceFamilies x = States.family(6, 1, 1, 4);
        Check.putAll(x, 5, 1, 4);
        design(x, 18, 36, 9, 18, 36, 9);
    }

    private void numbersInTheDesign() {
        DifferenceFamilies x = States.full();
        for (int block = 0; block < 6; block++) {
            b.due("designBlock(" + 40 * block + ")", x.designBlock(40 * block), x.block(block));
            int last = (block + 39) % 40;
            b.due("designBlock(" + (40 * block + 39) + ")", x.designBlock(40 * block + 39), Check.set(last, 38));
        }
    }

    private void rowsAndColumns() {
        // One row of 40 columns, six equal rows, 40 rows with a 1 in each.
        b.due("all elements: rank(2)", wholeBlocks(1).rank(2), 1);
        b.due("all elements six times: rank(7)", wholeBlocks(6).rank(7), 1);
        b.due("one element: rank(2)", States.family(40, 1, 7).rank(2), 40);
        b.due("0 and 20: rank(3)", States.family(40, 1, 0, 20).rank(3), 20);
    }

    private void designBlocks() {
        b.test(33, "Returns the number of blocks of the design", this::leastAndGreatestDesign);
        b.test(34, "number: the number of a block of the design", this::rangesOfDesignBlocks);
        b.test(34, "Returns its set of elements", this::setsOfTheDesign);
        b.test(34, "BAD_VALUE", this::badDesignBlocks);
    }

    private void leastAndGreatestDesign() {
        b.due("designBlocks() without blocks", States.fresh().designBlocks(), 0);
        b.due("designBlocks() of all elements", wholeBlocks(1).designBlocks(), 1);
        b.due("designBlocks() of six whole blocks", wholeBlocks(6).designBlocks(), 6);
        b.due("designBlocks() of six blocks", States.full().designBlocks(), 240);
        DifferenceFamilies x = States.family(7, 1, 3);
        x.take(0, 3);
        b.due("take(0, 3); designBlocks()", x.designBlocks(), 0);
    }

    private void rangesOfDesignBlocks() {
        b.range(States::worked, "designBlock(?)", 0, 11, 23, 64, (x, number) -> x.designBlock(number));
        b.range(States::full, "designBlock(?)", 0, 1 | 1L << 39, 239, 16 | 1L << 38,
                (x, number) -> x.designBlock(number));
        b.range(() -> States.family(2, 1, 0, 1), "designBlock(?)", 0, 3, 0, 3, (x, number) -> x.designBlock(number));
    }

    private void setsOfTheDesign() {
        design(States.family(7, 1, 6), 64, 1, 2, 4, 8, 16, 32);
        b.due("40: designBlock(1) of 39", States.family(40, 1, 39).designBlock(1), 1);
        b.due("40: designBlock(0) of 39", States.family(40, 1, 39).designBlock(0), 1L << 39);
    }

    private void badDesignBlocks() {
        b.refused(States::fresh, "designBlock(0)", BAD_VALUE, x -> x.designBlock(0));
        b.refused(States::fresh, "designBlock(-1)", BAD_VALUE, x -> x.designBlock(-1));
        b.refused(States::full, "designBlock(240)", BAD_VALUE, x -> x.designBlock(240));
        // The number was right before the block was taken away.
        DifferenceFamilies x = States.family(7, 1, 0, 1, 3);
        b.due("designBlock(6)", x.designBlock(6), Check.set(6, 0, 2));
        x.setGroup(7, 1);
        b.due("setGroup(7, 1); designBlock(6)", x.designBlock(6), BAD_VALUE);
    }

    private void replications() {
        b.test(35, "x: an element",
                () -> b.range(States::worked, "replication(?)", 0, 6, 7, 6, (x, e) -> x.replication(e)));
        b.test(35, "Returns the number of blocks of the design that contain it", this::leastAndGreatestReplication);
        b.test(35, "BAD_VALUE", this::badReplications);
    }

    private void leastAndGreatestReplication() {
        b.due("replication(0) without blocks", States.fresh().replication(0), 0);
        b.due("replication(39) of all elements", wholeBlocks(1).replication(39), 1);
        b.due("replication(39) of six whole blocks", wholeBlocks(6).replication(39), 6);
        b.due("replication(25) of 5 and 25", States.family(40, 1, 5, 25).replication(25), 1);
        b.due("replication(39) of six blocks", States.full().replication(39), 12);
        // All elements but 0: each block leaves one out.
        DifferenceFamilies x = wholeBlocks(6);
        for (int block = 0; block < 6; block++) {
            x.take(block, 0);
        }
        b.due("replication(0) of six blocks of 39 elements", x.replication(0), 234);
    }

    private void badReplications() {
        b.refused(States::fresh, "replication(7)", BAD_VALUE, x -> x.replication(7));
        b.refused(States::fresh, "replication(-1)", BAD_VALUE, x -> x.replication(-1));
        b.refused(States::full, "replication(40)", BAD_VALUE, x -> x.replication(40));
    }

    private void pairs() {
        b.test(36, "x: an element",
                () -> b.range(States::worked, "pairs(?, 3)", 0, 1, 7, 0, (x, e) -> x.pairs(e, 3)));
        b.test(36, "y: another element",
                () -> b.range(States::worked, "pairs(3, ?)", 0, 1, 7, 0, (x, e) -> x.pairs(3, e)));
        b.test(36, "Returns the number of blocks of the design that contain both", this::leastAndGreatestPairs);
        b.test(36, "BAD_VALUE, also if x and y are the same", this::badPairs);
    }

    private void leastAndGreatestPairs() {
        b.due("pairs(0, 6) without blocks", States.fresh().pairs(0, 6), 0);
        b.due("pairs(0, 39) of all elements", wholeBlocks(1).pairs(0, 39), 1);
        b.due("pairs(39, 0) of six whole blocks", wholeBlocks(6).pairs(39, 0), 6);
        b.due("2: pairs(0, 1)", States.family(2, 1, 0, 1).pairs(0, 1), 1);
        b.due("pairs(5, 25) of 5 and 25", States.family(40, 1, 5, 25).pairs(5, 25), 1);
        b.due("pairs(5, 24) of 5 and 25", States.family(40, 1, 5, 25).pairs(5, 24), 0);
        // The pair that goes round.
        b.due("pairs(39, 0) of 0 and 1", States.family(40, 1, 0, 1).pairs(39, 0), 1);
    }

    private void badPairs() {
        b.refused(States::worked, "pairs(0, 0)", BAD_VALUE, x -> x.pairs(0, 0));
        b.refused(States::worked, "pairs(7, 7)", BAD_VALUE, x -> x.pairs(7, 7));
        b.refused(States::worked, "pairs(8, 8)", BAD_VALUE, x -> x.pairs(8, 8));
        b.refused(States::worked, "pairs(-1, -1)", BAD_VALUE, x -> x.pairs(-1, -1));
        b.refused(States::fresh, "pairs(3, 3)", BAD_VALUE, x -> x.pairs(3, 3));
        b.refused(() -> States.group(2, 1), "2: pairs(1, 2)", BAD_VALUE, x -> x.pairs(1, 2));
    }

    private void intersections() {
        b.test(37, "common: 0 to 40",
                () -> b.range(() -> wholeBlocks(6), "intersections(?)", 0, 0, 40, 15, (x, n) -> x.intersections(n)));
        b.test(37, "with different numbers and without regard to their order", this::meetings);
        b.test(37, "BAD_VALUE", this::badIntersections);
    }

    private void meetings() {
        b.due("intersections(0) without blocks", States.fresh().intersections(0), 0);
        // A block is no pair with itself.
        b.due("intersections(40) of one block", wholeBlocks(1).intersections(40), 0);
        b.due("intersections(40) of two equal blocks", wholeBlocks(2).intersections(40), 1);
        b.due("intersections(0) of single elements", States.family(40, 1, 3).intersections(0), 780);
        b.due("intersections(1) of single elements", States.family(40, 1, 3).intersections(1), 0);
        b.due("intersections(1) of 0, 1, 3", States.family(7, 1, 0, 1, 3).intersections(1), 21);
        b.due("2: intersections(0) of 1", States.family(2, 1, 1).intersections(0), 1);
        DifferenceFamilies x = States.full();
        long all = 0;
        for (int common = 0; common <= 40; common++) {
            all += x.intersections(common);
        }
        b.due("all intersections() of 240 blocks", all, 28680);
    }

    private void badIntersections() {
        b.refused(States::fresh, "intersections(-1)", BAD_VALUE, x -> x.intersections(-1));
        b.refused(States::fresh, "intersections(41)", BAD_VALUE, x -> x.intersections(41));
        // 8 is above the order 7, but no error.
        b.due("intersections(8)", States.fresh().intersections(8), 0);
    }

    private void ranks() {
        b.test(38, "p: 2, 3, 5 or 7", this::fourPrimes);
        b.test(38, "Returns the rank of the incidence matrix over the field of the integers modulo p",
                this::leastAndGreatestRank);
        b.test(38, "the field of the integers modulo p", this::ranksByElimination);
        b.test(38, "BAD_VALUE", this::badPrimes);
    }

    private void fourPrimes() {
        int[] due = {BAD_VALUE, BAD_VALUE, 4, 6, BAD_VALUE, 7, BAD_VALUE, 7, BAD_VALUE, BAD_VALUE, BAD_VALUE};
        for (int p = 0; p < due.length; p++) {
            b.due("{0, 1, 3}: rank(" + p + ")", States.family(7, 1, 0, 1, 3).rank(p), due[p]);
        }
        for (int p : new int[] {-7, -2, -1, 11, 13, 2 + 256, Integer.MIN_VALUE, Integer.MAX_VALUE}) {
            b.due("{0, 1, 3}: rank(" + p + ")", States.family(7, 1, 0, 1, 3).rank(p), BAD_VALUE);
        }
    }

    private void leastAndGreatestRank() {
        for (int p : new int[] {2, 3, 5, 7}) {
            b.due("rank(" + p + ") without blocks", States.fresh().rank(p), 0);
            b.due("rank(" + p + ") of all elements", wholeBlocks(1).rank(p), 1);
            b.due("rank(" + p + ") of one element", States.family(40, 1, 39).rank(p), 40);
            // Rows of v - 1 ones each: the sum of all rows is v - 1 in each column, which is 0 modulo p for v = p + 1.
            int[] elements = new int[p];
            for (int e = 0; e < p; e++) {
                elements[e] = e;
            }
            b.due("rank(" + p + ") of p elements of p + 1", States.family(p + 1, 1, elements).rank(p), p);
            int other = p == 7 ? 5 : 7;
            b.due("rank(" + other + ") of " + p + " of " + (p + 1), States.family(p + 1, 1, elements).rank(other),
                    p + 1);
        }
        b.due("rank(2) of 240 blocks", States.full().rank(2), 39);
        b.due("rank(3) of 240 blocks", States.full().rank(3), 40);
    }

    /** All sets of 7, of 2 * 3 and of 8, and pairs of sets, against the rows of the design. */
    private void ranksByElimination() {
        int[][] groups = {{7, 1}, {2, 3}, {8, 1}};
        for (int[] group : groups) {
            int v = group[0] * group[1];
            for (int set = 1; set < 1 << v; set++) {
                DifferenceFamilies x = States.group(group[0], group[1]);
                for (int e = 0; e < v; e++) {
                    putIf(x, 0, e, set >> e & 1);
                    putIf(x, 4, e, (set * 5 + 3) >> (e + 1) & 1);
                }
                for (int p : new int[] {2, 3, 5, 7}) {
                    b.due(group[0] + " * " + group[1] + ", set " + set + ": rank(" + p + ")", x.rank(p), rank(x, v, p));
                }
            }
        }
    }

    private static void putIf(DifferenceFamilies x, int block, int element, int bit) {
        if (bit == 1) {
            x.put(block, element);
        }
    }

    private static int rank(DifferenceFamilies x, int columns, int p) {
        int[][] rows = new int[x.designBlocks()][columns];
        for (int i = 0; i < rows.length; i++) {
            long set = x.designBlock(i);
            for (int e = 0; e < columns; e++) {
                rows[i][e] = (int) (set >> e & 1);
            }
        }
        int rank = 0;
        for (int column = 0; column < columns && rank < rows.length; column++) {
            rank += clearColumn(rows, rank, column, p) ? 1 : 0;
        }
        return rank;
    }

    /** Takes multiples of one row from those behind it until they have 0 in a column; false if all have. */
    private static boolean clearColumn(int[][] rows, int from, int column, int p) {
        for (int i = from; i < rows.length; i++) {
            if (rows[i][column] != 0) {
                int[] pivot = rows[i];
                rows[i] = rows[from];
                rows[from] = pivot;
            }
        }
        for (int i = from + 1; i < rows.length; i++) {
            while (rows[from][column] != 0 && rows[i][column] != 0) {
                for (int e = 0; e < rows[i].length; e++) {
                    rows[i][e] = (rows[i][e] + rows[from][e]) % p;
                }
            }
        }
        return rows[from][column] != 0;
    }

    private void badPrimes() {
        b.refused(States::fresh, "rank(1)", BAD_VALUE, x -> x.rank(1));
        b.refused(States::worked, "rank(0)", BAD_VALUE, x -> x.rank(0));
        b.refused(States::worked, "rank(6)", BAD_VALUE, x -> x.rank(6));
        b.refused(States::worked, "rank(8)", BAD_VALUE, x -> x.rank(8));
        b.refused(States::full, "rank(11)", BAD_VALUE, x -> x.rank(11));
    }

    private void disjointBlocks() {
        b.test(39, "of the blocks that have no element in common with those found before, the one with the lowest number",
                this::lowestDisjoint);
        b.test(39, "Returns how many it finds", this::leastAndGreatestDisjoint);
    }

    private void lowestDisjoint() {
        // {0, 2}, then {1, 3}; the pairs of neighbours have no room then.
        DifferenceFamilies x = States.family(4, 1, 0, 2);
        Check.putAll(x, 1, 0, 1);
        b.due("4, {0, 2}, {0, 1}: disjointBlocks()", x.disjointBlocks(), 2);
        // {1, 2}, then {3, 4}, then {5, 0}, which goes round.
        b.due("6, {1, 2}: disjointBlocks()", States.family(6, 1, 1, 2).disjointBlocks(), 3);
        // {0, 1, 2}, then {3, 4, 5}, though there are three disjoint pairs.
        DifferenceFamilies w = States.family(6, 1, 0, 1, 2);
        Check.putAll(w, 1, 0, 1);
        b.due("6, {0, 1, 2}, {0, 1}: disjointBlocks()", w.disjointBlocks(), 2);
        // 0 1 3, then 4 5 7; there is no third.
        b.due("9, {0, 1, 3}: disjointBlocks()", States.family(9, 1, 0, 1, 3).disjointBlocks(), 2);
        // A large block with a low number leaves no room for small ones.
        DifferenceFamilies y = States.family(7, 1, 0, 1, 2, 3, 4, 5, 6);
        y.put(1, 0);
        b.due("7, all elements, {0}: disjointBlocks()", y.disjointBlocks(), 1);
        DifferenceFamilies z = States.family(7, 1, 0);
        Check.putAll(z, 1, 0, 1, 2, 3, 4, 5, 6);
        b.due("7, {0}, all elements: disjointBlocks()", z.disjointBlocks(), 7);
    }

    private void leastAndGreatestDisjoint() {
        b.due("disjointBlocks() without blocks", States.fresh().disjointBlocks(), 0);
        b.due("disjointBlocks() of all elements", wholeBlocks(6).disjointBlocks(), 1);
        b.due("disjointBlocks() of one element", States.family(40, 1, 39).disjointBlocks(), 40);
        b.due("disjointBlocks() of 0 and 20", States.family(40, 1, 0, 20).disjointBlocks(), 20);
        // The same translates again have no room.
        DifferenceFamilies x = States.family(40, 1, 0);
        x.put(5, 0);
        b.due("disjointBlocks() of two single elements", x.disjointBlocks(), 40);
    }
}
