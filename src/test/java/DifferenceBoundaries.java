/** 'Blocks' as far as it tells of counts, and promises 23 to 27. */
final class DifferenceBoundaries {
    private static final int BAD_VALUE = DifferenceFamilies.BAD_VALUE;
    private static final int NONE = DifferenceFamilies.NONE;

    private final Boundaries b;

    DifferenceBoundaries(Boundaries b) {
        this.b = b;
    }

    void run() {
        counts();
        summaries();
        indexes();
        deficiencies();
    }

    /** Six blocks of all elements of the cyclic group of order 40: each count is 240, which is the greatest. */
    private static DifferenceFamilies sixWholeBlocks() {
        DifferenceFamilies x = States.group(40, 1);
        for (int block = 0; block < 6; block++) {
            for (int e = 0; e < 40; e++) {
                x.put(block, e);
            }
        }
        return x;
    }

    private static DifferenceFamilies withHole(DifferenceFamilies x, int element) {
        x.setHole(element, 0);
        return x;
    }

    private void counts() {
        b.test(23, "the number of all triples of a base block and two different elements x and y", this::triples);
        b.test(23, "d: an element other than 0",
                () -> b.range(States::worked, "count(?)", 1, 2, 7, 2, (x, d) -> x.count(d)));
        b.test(23, "Returns its count", this::leastAndGreatestCounts);
        b.test(23, "BAD_VALUE", this::badCounts);
    }

    private void triples() {
        // The differences are not symmetrical before both orders of a pair are counted: 1 - 0 and 0 - 1.
        DifferenceFamilies x = States.family(4, 3, 0, 1, 11);
        Check.putAll(x, 5, 0, 1);
        // (0, 1); (3, 2); (3, 2) - (0, 1) = (3, 1); and what is opposite to these: (0, 2), (1, 1), (1, 2)
        int[] due = {0, 2, 2, 0, 1, 1, 0, 0, 0, 0, 1, 1};
        for (int d = 1; d < 12; d++) {
            b.due("count(" + d + ")", x.count(d), due[d]);
        }
        // Elements of different blocks make no triple.
        DifferenceFamilies y = States.family(7, 1, 0);
        y.put(1, 1);
        b.due("{0}, {1}: count(1)", y.count(1), 0);
    }

    private void leastAndGreatestCounts() {
        b.due("count(1) without blocks", States.fresh().count(1), 0);
        b.due("count(6) of one element", States.family(7, 1, 3).count(6), 0);
        b.due("count(1) of six blocks of all elements", sixWholeBlocks().count(1), 240);
        b.due("count(39) of six blocks of all elements", sixWholeBlocks().count(39), 240);
        // A difference that is opposite to itself is counted in both orders.
        b.due("2: count(1) of 0 and 1", States.family(2, 1, 0, 1).count(1), 2);
        b.due("40: count(20) of 0 and 20", States.family(40, 1, 0, 20).count(20), 2);
        // 39 - 0 goes round to 0 - 1.
        b.due("40: count(39) of 0 and 39", States.family(40, 1, 0, 39).count(39), 1);
        b.due("40: count(1) of 0 and 39", States.family(40, 1, 0, 39).count(1), 1);
    }

    private void badCounts() {
        b.refused(States::fresh, "count(0)", BAD_VALUE, x -> x.count(0));
        b.refused(States::fresh, "count(7)", BAD_VALUE, x -> x.count(7));
        b.refused(() -> States.group(2, 1), "2: count(2)", BAD_VALUE, x -> x.count(2));
        b.refused(States::full, "count(0)", BAD_VALUE, x -> x.count(0));
        b.refused(States::full, "count(40)", BAD_VALUE, x -> x.count(40));
    }

    private void summaries() {
        b.test(24, "Returns the number of elements other than 0 whose count is above 0", this::coveredElements);
        b.test(25, "Returns the greatest count", this::greatestCounts);
        b.test(25, "0 if all are 0", this::noCounts);
    }

    private void coveredElements() {
        b.due("covered() without blocks", States.fresh().covered(), 0);
        b.due("covered() of one element", States.family(7, 1, 3).covered(), 0);
        b.due("covered() of 0 and 1", States.family(7, 1, 0, 1).covered(), 2);
        b.due("2: covered() of 0 and 1", States.family(2, 1, 0, 1).covered(), 1);
        b.due("covered() of 0, 1, 3", States.family(7, 1, 0, 1, 3).covered(), 6);
        b.due("covered() of six blocks of all elements", sixWholeBlocks().covered(), 39);
        // Elements of the hole count too.
        b.due("covered() with a hole", withHole(States.family(8, 1, 0, 4), 4).covered(), 1);
    }

    private void greatestCounts() {
        b.due("greatestCount() of 0 and 1", States.family(7, 1, 0, 1).greatestCount(), 1);
        b.due("greatestCount() of six blocks of all elements", sixWholeBlocks().greatestCount(), 240);
        // The greatest one is that of the last element, and that of the hole.
        b.due("2: greatestCount() of 0 and 1", States.family(2, 1, 0, 1).greatestCount(), 2);
        b.due("greatestCount() with a hole", withHole(States.family(8, 1, 0, 4, 1), 4).greatestCount(), 2);
    }

    private void noCounts() {
        b.due("greatestCount() without blocks", States.fresh().greatestCount(), 0);
        DifferenceFamilies x = States.fresh();
        for (int block = 0; block < 6; block++) {
            x.put(block, block);
        }
        b.due("greatestCount() of six blocks of one element", x.greatestCount(), 0);
    }

    private void indexes() {
        b.test(26, "The family is a difference family with index L, where L is at least 1", this::families);
        b.test(26, "Returns the index with which the family is a difference family", this::leastAndGreatestIndexes);
        b.test(26, "NONE if it is none (also if the hole is the whole group)", this::noIndex);
    }

    private void families() {
        // Each element that is not in the hole has the count L, and those of the hole have the count 0.
        b.due("8, hole 0 4, {0, 1, 3}: index()", withHole(States.family(8, 1, 0, 1, 3), 4).index(), 1);
        b.due("8, {0, 1, 3}: index()", States.family(8, 1, 0, 1, 3).index(), NONE);
        DifferenceFamilies x = withHole(States.family(8, 1, 0, 1, 3), 4);
        Check.putAll(x, 1, 0, 4);
        b.due("8, hole 0 4, {0, 1, 3}, {0, 4}: index()", x.index(), NONE);
        // The counts of 1 and 7 are one too many.
        DifferenceFamilies y = States.family(7, 1, 0, 1, 3);
        Check.putAll(y, 1, 0, 1);
        b.due("{0, 1, 3}, {0, 1}: index()", y.index(), NONE);
        // The last element alone has another count.
        DifferenceFamilies z = States.family(4, 1, 0, 1);
        Check.putAll(z, 1, 0, 2);
        b.due("4, {0, 1}, {0, 2}: index()", z.index(), NONE);
        Check.putAll(z, 2, 0, 1);
        b.due("4, {0, 1}, {0, 2}, {0, 1}: index()", z.index(), 2);
    }

    private void leastAndGreatestIndexes() {
        b.due("{0, 1, 3}: index()", States.family(7, 1, 0, 1, 3).index(), 1);
        b.due("2, {0, 1}: index()", States.family(2, 1, 0, 1).index(), 2);
        b.due("six blocks of all elements: index()", sixWholeBlocks().index(), 240);
        DifferenceFamilies x = States.family(7, 1, 0, 1, 3);
        x.put(5, 6);
        b.due("{0, 1, 3}, {6}: index()", x.index(), 1);
    }

    private void noIndex() {
        b.refused(States::fresh, "index()", NONE, x -> x.index());
        // All counts are 0, but an index is at least 1.
        b.refused(() -> States.family(7, 1, 3), "{3}: index()", NONE, x -> x.index());
        b.refused(States::worked, "index()", NONE, x -> x.index());
        b.due("whole hole: index()", withHole(States.fresh(), 1).index(), NONE);
        b.due("whole hole, {0, 1, 3}: index()", withHole(States.family(7, 1, 0, 1, 3), 1).index(), NONE);
        b.due("whole hole, {3}: index()", withHole(States.family(7, 1, 3), 1).index(), NONE);
        b.due("2, whole hole, {0, 1}: index()", withHole(States.family(2, 1, 0, 1), 1).index(), NONE);
    }

    private void deficiencies() {
        b.test(27, "The deficiency of the family for an L is the sum, over all elements that are not in the hole",
                this::sumsOfDeficiencies);
        b.test(27, "index: the index L, 1 to 20",
                () -> b.range(States::worked, "deficiency(?)", 1, 2, 20, 112, (x, index) -> x.deficiency(index)));
        b.test(27, "Returns the deficiency of the family for it", this::leastAndGreatestDeficiencies);
        b.test(27, "BAD_VALUE", this::badDeficiencies);
    }

    private void sumsOfDeficiencies() {
        // The counts of 1 to 6 are 2, 1, 0, 0, 1, 2.
        DifferenceFamilies x = States.family(7, 1, 0, 1, 2);
        b.due("{0, 1, 2}: deficiency(1)", x.deficiency(1), 4);
        b.due("{0, 1, 2}: deficiency(2)", x.deficiency(2), 6);
        // In the hole of 0 and 4, a count is too much, and 0 is right.
        DifferenceFamilies y = withHole(States.family(8, 1, 0, 4), 4);
        b.due("8, hole 0 4, {0, 4}: deficiency(1)", y.deficiency(1), 8);
        b.due("8, hole 0 4, {0, 1, 3}: deficiency(1)", withHole(States.family(8, 1, 0, 1, 3), 4).deficiency(1), 0);
    }

    private void leastAndGreatestDeficiencies() {
        b.due("deficiency(1) without blocks", States.fresh().deficiency(1), 6);
        b.due("deficiency(20) without blocks", States.fresh().deficiency(20), 120);
        b.due("2: deficiency(1) without blocks", States.group(2, 1).deficiency(1), 1);
        b.due("{0, 1, 3}: deficiency(1)", States.family(7, 1, 0, 1, 3).deficiency(1), 0);
        b.due("six blocks of all elements: deficiency(1)", sixWholeBlocks().deficiency(1), 39 * 239);
        b.due("six blocks of all elements: deficiency(20)", sixWholeBlocks().deficiency(20), 39 * 220);
        b.due("whole hole: deficiency(1)", withHole(States.fresh(), 1).deficiency(1), 0);
        b.due("whole hole: deficiency(20)", withHole(States.fresh(), 1).deficiency(20), 0);
        b.due("whole hole, six blocks: deficiency(1)", withHole(sixWholeBlocks(), 1).deficiency(1), 39 * 240);
    }

    private void badDeficiencies() {
        b.refused(States::fresh, "deficiency(0)", BAD_VALUE, x -> x.deficiency(0));
        b.refused(States::fresh, "deficiency(21)", BAD_VALUE, x -> x.deficiency(21));
        b.refused(States::full, "deficiency(-1)", BAD_VALUE, x -> x.deficiency(-1));
    }
}
