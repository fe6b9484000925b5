/** 'Blocks' as far as it tells of sets, and promises 11 to 15 and 19 to 22. */
final class BlockBoundaries {
    private static final int BAD_VALUE = DifferenceFamilies.BAD_VALUE;
    private static final int NOT_POSSIBLE = DifferenceFamilies.NOT_POSSIBLE;
    private static final int NONE = DifferenceFamilies.NONE;
    private static final long WHOLE = (1L << 40) - 1;

    private final Boundaries b;

    BlockBoundaries(Boundaries b) {
        this.b = b;
    }

    void run() {
        sets();
        puts();
        takes();
        shifts();
        applies();
        multiplies();
        askedBlocks();
        normalForms();
        stabilizers();
        sizes();
    }

    /** A block 3 of all elements of the cyclic group of order 40; the other blocks are empty. */
    private static DifferenceFamilies wholeBlock() {
        DifferenceFamilies x = States.group(40, 1);
        for (int e = 0; e < 40; e++) {
            x.put(3, e);
        }
        return x;
    }

    private static DifferenceFamilies sixBlocks() {
        DifferenceFamilies x = States.fresh();
        for (int block = 0; block < 6; block++) {
            x.put(block, block + 1);
        }
        return x;
    }

    private void sets() {
        b.test(19, "There are six base blocks, 0 to 5", this::sixBlocksThereAre);
        b.test(11, "A block is a set of elements", this::noElementTwice);
        b.test(19, "A set of elements is given as a long in which bit x stands for the element x", this::bits);
        b.test(13, "The translate of a set by an element g is the set of all x + g with x in the set",
                this::allTranslates);
        b.test(33, "The family consists of the base blocks that are not empty", this::emptyBlocksDoNotCount);
    }

    private void sixBlocksThereAre() {
        DifferenceFamilies x = States.fresh();
        b.due("put(-1, 1)", x.put(-1, 1), BAD_VALUE);
        b.due("put(6, 1)", x.put(6, 1), BAD_VALUE);
        for (int block = 0; block < 6; block++) {
            b.due("put(" + block + ", " + (block + 1) + ")", x.put(block, block + 1), 1);
        }
        b.blocks("put() in all blocks", x, 2, 4, 8, 16, 32, 64);
    }

    private void noElementTwice() {
        DifferenceFamilies x = States.family(7, 1, 6, 2);
        b.due("put(0, 6)", x.put(0, 6), NOT_POSSIBLE);
        b.due("block(0)", x.block(0), 68);
        // The order in which elements came does not count.
        DifferenceFamilies y = States.family(7, 1, 2, 6);
        b.due("block(0)", y.block(0), 68);
    }

    private void bits() {
        for (int e = 0; e < 40; e++) {
            b.due("put(0, " + e + "); block(0)", States.family(40, 1, e).block(0), 1L << e);
        }
    }

    private void allTranslates() {
        int[][] groups = {{7, 1}, {4, 3}, {3, 4}, {2, 2}};
        for (int[] group : groups) {
            int v = group[0] * group[1];
            for (int g = 0; g < v; g++) {
                DifferenceFamilies x = States.family(group[0], group[1], 0, 1, v - 1);
                long due = Check.set(x.sum(0, g), x.sum(1, g), x.sum(v - 1, g));
                x.shift(0, g);
                b.due(group[0] + " * " + group[1] + ": shift(0, " + g + "); block(0)", x.block(0), due);
            }
        }
    }

    private void emptyBlocksDoNotCount() {
        DifferenceFamilies x = States.fresh();
        Check.putAll(x, 4, 0, 1, 3);
        b.due("blockSize()", x.blockSize(), 3);
        b.due("designBlocks()", x.designBlocks(), 7);
        b.due("canonical(0)", x.canonical(0), 11);
        b.due("canonical(1)", x.canonical(1), NONE);
        b.due("keep(0)", x.keep(0), 1);
        x.put(2, 5);
        x.take(2, 5);
        b.due("put(2, 5); take(2, 5); isEquivalent(0)", x.isEquivalent(0), 1);
    }

    private void puts() {
        b.test(11, "Adds an element to a base block", this::putElements);
        b.test(11, "block: a base block, 0 to 5",
                () -> b.range(States::worked, "put(?, 2)", 0, 4, 5, 2, (x, block) -> x.put(block, 2)));
        b.test(11, "x: an element",
                () -> b.range(States::worked, "put(1, ?)", 0, 1, 7, 1, (x, e) -> x.put(1, e)));
        b.test(11, "Returns the number of its elements then", this::sizesByPut);
        b.test(11, "BAD_VALUE", this::badPuts);
        b.test(11, "NOT_POSSIBLE if it contains x already", this::putsOfWhatIsThere);
    }

    private void putElements() {
        DifferenceFamilies x = States.group(40, 1);
        x.put(0, 0);
        b.blocks("put(0, 0)", x, 1);
        x.put(5, 39);
        b.blocks("put(5, 39)", x, 1, 0, 0, 0, 0, 1L << 39);
        x.put(5, 31);
        x.put(5, 32);
        b.blocks("put(5, 31); put(5, 32)", x, 1, 0, 0, 0, 0, 1L << 39 | 3L << 31);
    }

    private void sizesByPut() {
        DifferenceFamilies x = States.group(40, 1);
        for (int e = 39; e >= 0; e--) {
            b.due("put(3, " + e + ")", x.put(3, e), 40 - e);
        }
        // Elements of other blocks do not count.
        b.due("put(4, 0)", x.put(4, 0), 1);
    }

    private void badPuts() {
        b.refused(States::worked, "put(6, 8)", BAD_VALUE, x -> x.put(6, 8));
        b.refused(States::worked, "put(0, 8)", BAD_VALUE, x -> x.put(0, 8));
        b.refused(States::full, "put(-1, 39)", BAD_VALUE, x -> x.put(-1, 39));
        b.refused(States::full, "put(0, 40)", BAD_VALUE, x -> x.put(0, 40));
    }

    private void putsOfWhatIsThere() {
        b.refused(States::worked, "put(0, 0)", NOT_POSSIBLE, x -> x.put(0, 0));
        b.refused(States::worked, "put(5, 7)", NOT_POSSIBLE, x -> x.put(5, 7));
        b.refused(States::full, "put(0, 39)", NOT_POSSIBLE, x -> x.put(0, 39));
        DifferenceFamilies whole = wholeBlock();
        for (int e = 0; e < 40; e++) {
            b.due("whole block: put(3, " + e + ")", whole.put(3, e), NOT_POSSIBLE);
        }
        // Another block may have it.
        b.due("put(1, 0)", States.worked().put(1, 0), 1);
    }

    private void takes() {
        b.test(12, "Removes an element from a base block", this::takeElements);
        b.test(12, "block: a base block, 0 to 5", () -> b.range(() -> {
            DifferenceFamilies x = States.worked();
            x.put(5, 3);
            return x;
        }, "take(?, 3)", 0, 2, 5, 1, (x, block) -> x.take(block, 3)));
        b.test(12, "x: an element", () -> b.range(() -> {
            DifferenceFamilies x = States.worked();
            x.put(0, 7);
            return x;
        }, "take(0, ?)", 0, 3, 7, 3, (x, e) -> x.take(0, e)));
        b.test(12, "Returns the number of its elements then", this::sizesByTake);
        b.test(12, "BAD_VALUE", this::badTakes);
        b.test(12, "NOT_POSSIBLE if it does not contain x", this::takesOfWhatIsNotThere);
    }

    private void takeElements() {
        DifferenceFamilies x = States.full();
        x.take(0, 39);
        b.due("take(0, 39); block(0)", x.block(0), 1);
        b.due("block(1)", x.block(1), 2 | 1L << 39);
        x.take(0, 0);
        b.due("take(0, 0); block(0)", x.block(0), 0);
        x.put(0, 0);
        b.due("put(0, 0); block(0)", x.block(0), 1);
    }

    private void sizesByTake() {
        DifferenceFamilies x = wholeBlock();
        for (int e = 0; e < 40; e++) {
            b.due("take(3, " + e + ")", x.take(3, e), 39 - e);
        }
    }

    private void badTakes() {
        b.refused(States::worked, "take(6, 0)", BAD_VALUE, x -> x.take(6, 0));
        b.refused(States::worked, "take(1, 8)", BAD_VALUE, x -> x.take(1, 8));
        b.refused(States::full, "take(0, 40)", BAD_VALUE, x -> x.take(0, 40));
        b.refused(States::full, "take(-1, -1)", BAD_VALUE, x -> x.take(-1, -1));
    }

    private void takesOfWhatIsNotThere() {
        b.refused(States::fresh, "take(0, 0)", NOT_POSSIBLE, x -> x.take(0, 0));
        b.refused(States::worked, "take(0, 7)", NOT_POSSIBLE, x -> x.take(0, 7));
        b.refused(States::worked, "take(1, 0)", NOT_POSSIBLE, x -> x.take(1, 0));
        b.refused(States::full, "take(5, 38)", NOT_POSSIBLE, x -> x.take(5, 38));
        DifferenceFamilies x = States.worked();
        x.take(0, 1);
        b.due("take(0, 1); take(0, 1)", x.take(0, 1), NOT_POSSIBLE);
    }

    private void shifts() {
        b.test(13, "Replaces a base block by a translate", this::shiftsThatGoRound);
        b.test(13, "block: a base block, 0 to 5",
                () -> b.range(States::worked, "shift(?, 1)", 0, 3, 5, 1, (x, block) -> x.shift(block, 1)));
        b.test(13, "g: the element by which it is translated",
                () -> b.range(States::worked, "shift(0, ?)", 0, 3, 7, 3, (x, g) -> x.shift(0, g)));
        b.test(13, "Returns the number of its elements", this::sizesByShift);
        b.test(13, "BAD_VALUE", this::badShifts);
    }

    private void shiftsThatGoRound() {
        DifferenceFamilies x = States.worked();
        x.shift(5, 1);
        b.blocks("shift(5, 1)", x, 11, 0, 96, 0, 0, 1);
        x.shift(5, 0);
        b.blocks("shift(5, 0)", x, 11, 0, 96, 0, 0, 1);
        x.shift(0, 7);
        b.blocks("shift(0, 7)", x, Check.set(7, 0, 2), 0, 96, 0, 0, 1);
        x.shift(1, 7);
        b.due("shift(1, 7) of an empty block; block(1)", x.block(1), 0);
        DifferenceFamilies y = States.family(4, 6, 23, 5, 18);
        // (3, 5), (0, 5) and (3, 0), by (1, 1)
        y.shift(0, 7);
        b.due("4 * 6: shift(0, 7); block(0)", y.block(0), Check.set(0, 6, 1));
        DifferenceFamilies z = wholeBlock();
        z.shift(3, 39);
        b.due("shift(3, 39) of all elements; block(3)", z.block(3), WHOLE);
    }

    private void sizesByShift() {
        b.due("shift(0, 3) of an empty block", States.fresh().shift(0, 3), 0);
        b.due("shift(0, 0) of an empty block", States.fresh().shift(0, 0), 0);
        b.due("shift(5, 7)", States.worked().shift(5, 7), 1);
        b.due("shift(3, 17) of all elements", wholeBlock().shift(3, 17), 40);
    }

    private void badShifts() {
        b.refused(States::worked, "shift(6, 8)", BAD_VALUE, x -> x.shift(6, 8));
        b.refused(States::worked, "shift(1, 8)", BAD_VALUE, x -> x.shift(1, 8));
        b.refused(States::fresh, "shift(0, 7)", BAD_VALUE, x -> x.shift(0, 7));
    }

    private void applies() {
        b.test(14, "Replaces each base block by its image by an automorphism", this::imagesOfAllBlocks);
        b.test(14, "automorphism: the number of an automorphism", this::rangesOfApply);
        b.test(14, "Returns the number of base blocks that are changed by this", this::changedByApply);
        b.test(14, "BAD_VALUE", this::badApplies);
    }

    private void imagesOfAllBlocks() {
        DifferenceFamilies x = sixBlocks();
        x.apply(5);
        b.blocks("apply(5)", x, 64, 32, 16, 8, 4, 2);
        x.apply(0);
        b.blocks("apply(0)", x, 64, 32, 16, 8, 4, 2);
        // The automorphism 1 of 2 * 2 exchanges 2 and 3.
        DifferenceFamilies y = States.family(2, 2, 0, 1, 2);
        y.apply(1);
        b.blocks("2 * 2: apply(1)", y, Check.set(0, 1, 3));
    }

    private void rangesOfApply() {
        b.range(States::worked, "apply(?)", 0, 0, 3, 3, (x, number) -> x.apply(number));
        b.range(() -> States.family(2, 1, 1), "apply(?)", 0, 0, 0, 0, (x, number) -> x.apply(number));
        b.range(() -> States.family(5, 5, 1), "apply(?)", 0, 0, 479, 1, (x, number) -> x.apply(number));
    }

    private void changedByApply() {
        b.due("apply(5) without blocks", States.fresh().apply(5), 0);
        b.due("apply(5) of six blocks", sixBlocks().apply(5), 6);
        b.due("apply(0) of six blocks", sixBlocks().apply(0), 0);
        b.due("apply(1) of 1, 2, 4", States.family(7, 1, 1, 2, 4).apply(1), 0);
        b.due("apply(5) of 0", States.family(7, 1, 0).apply(5), 0);
        b.due("apply(5) of all elements", States.family(7, 1, 0, 1, 2, 3, 4, 5, 6).apply(5), 0);
    }

    private void badApplies() {
        b.refused(States::fresh, "apply(6)", BAD_VALUE, x -> x.apply(6));
        b.refused(States::workedPairs, "apply(48)", BAD_VALUE, x -> x.apply(48));
        b.refused(States::full, "apply(16)", BAD_VALUE, x -> x.apply(16));
    }

    private void multiplies() {
        b.test(15, "Replaces each base block by the set of all t * x with x in it", this::multiplesOfAllBlocks);
        // 1001 has no common divisor with 17, and is refused for its size alone.
        b.test(15, "t: 1 to 1000", () -> b.range(() -> States.family(17, 1, 1), "multiply(?)", 1, 0, 1000, 1,
                (x, t) -> x.multiply(t)));
        b.test(15, "Returns the number of base blocks that are changed by this", this::changedByMultiply);
        b.test(15, "BAD_VALUE, also if t and the order of the group have a common divisor above 1",
                this::commonDivisors);
    }

    private void multiplesOfAllBlocks() {
        DifferenceFamilies x = sixBlocks();
        x.multiply(1000);
        b.blocks("multiply(1000)", x, 64, 32, 16, 8, 4, 2);
        x.multiply(8);
        b.blocks("multiply(8)", x, 64, 32, 16, 8, 4, 2);
        DifferenceFamilies y = States.family(3, 4, 0, 1, 11);
        // 7 * (0, 1) = (0, 3) and 7 * (2, 3) = (2, 1)
        y.multiply(7);
        b.blocks("3 * 4: multiply(7)", y, Check.set(0, 3, 9));
        DifferenceFamilies z = States.family(17, 1, 1, 16);
        z.multiply(1000);
        b.blocks("17: multiply(1000)", z, Check.set(14, 3));
    }

    private void changedByMultiply() {
        b.due("multiply(6) without blocks", States.fresh().multiply(6), 0);
        b.due("multiply(6) of six blocks", sixBlocks().multiply(6), 6);
        b.due("multiply(1) of six blocks", sixBlocks().multiply(1), 0);
        b.due("multiply(8) of six blocks", sixBlocks().multiply(8), 0);
        b.due("multiply(2) of 1, 2, 4", States.family(7, 1, 1, 2, 4).multiply(2), 0);
    }

    private void commonDivisors() {
        int[][] cases = {{7, 1, 7}, {7, 1, 994}, {8, 1, 2}, {8, 1, 8}, {8, 1, 1000}, {3, 4, 3}, {3, 4, 2}, {3, 4, 9},
            {2, 20, 5}, {2, 20, 995}, {2, 1, 2}, {2, 1, 1000}, {37, 1, 37}, {37, 1, 999}, {39, 1, 13}};
        for (int[] one : cases) {
            b.refused(() -> States.family(one[0], one[1], 0, 1), one[0] + " * " + one[1] + ": multiply(" + one[2] + ")",
                    BAD_VALUE, x -> x.multiply(one[2]));
        }
        b.refused(States::fresh, "multiply(7) without blocks", BAD_VALUE, x -> x.multiply(7));
        b.due("2: multiply(999)", States.group(2, 1).multiply(999), 0);
        b.due("37: multiply(1000)", States.family(37, 1, 1).multiply(1000), 0);
    }

    private void askedBlocks() {
        b.test(19, "block: a base block, 0 to 5",
                () -> b.range(States::worked, "block(?)", 0, 11, 5, 128, (x, block) -> x.block(block)));
        b.test(19, "Returns its set of elements", this::sets0To40);
        b.test(19, "BAD_VALUE", () -> b.refused(States::full, "block(6)", BAD_VALUE, x -> x.block(6)));
    }

    private void sets0To40() {
        b.due("block(1), which is empty", States.worked().block(1), 0);
        b.due("block(3) of all elements", wholeBlock().block(3), WHOLE);
        b.due("block(0) of 0 and 39", States.full().block(0), 1 | 1L << 39);
    }

    private void normalForms() {
        b.test(20, "The normal form of a set that is not empty is the smallest one of its translates (as a number)",
                this::smallestTranslates);
        b.test(20, "block: a base block, 0 to 5",
                () -> b.range(States::worked, "normal(?)", 0, 11, 5, 1, (x, block) -> x.normal(block)));
        b.test(20, "Returns its normal form", this::normalFormsThatGoRound);
        b.test(20, "BAD_VALUE", () -> b.refused(States::fresh, "normal(6)", BAD_VALUE, x -> x.normal(6)));
        b.test(20, "NONE if it is empty", this::noNormalForm);
    }

    private void smallestTranslates() {
        int[][] groups = {{7, 1}, {2, 2}, {2, 4}, {4, 2}, {3, 3}, {2, 1}};
        for (int[] group : groups) {
            int v = group[0] * group[1];
            for (long set = 1; set < 1L << v; set++) {
                DifferenceFamilies x = States.group(group[0], group[1]);
                for (int e = 0; e < v; e++) {
                    if ((set >> e & 1) == 1) {
                        x.put(0, e);
                    }
                }
                long due = Long.MAX_VALUE;
                long normal = x.normal(0);
                for (int g = 0; g < v; g++) {
                    x.shift(0, g);
                    due = Math.min(due, x.block(0));
                    x.undo();
                }
                b.due(group[0] + " * " + group[1] + ", set " + set + ": normal(0)", normal, due);
            }
        }
    }

    private void normalFormsThatGoRound() {
        b.due("normal(0) of 39", States.family(40, 1, 39).normal(0), 1);
        b.due("normal(0) of 39 and 0", States.family(40, 1, 39, 0).normal(0), 3);
        b.due("normal(0) of 0 and 20", States.family(40, 1, 0, 20).normal(0), 1 | 1L << 20);
        b.due("normal(3) of all elements", wholeBlock().normal(3), WHOLE);
        // Without the element 0.
        b.due("2 * 2: normal(0) of 0 and 3", States.family(2, 2, 0, 3).normal(0), 6);
        b.due("2 * 20: normal(0) of 19 and 20", States.family(2, 20, 19, 20).normal(0), Check.set(1, 20));
    }

    private void noNormalForm() {
        b.refused(States::fresh, "normal(0)", NONE, x -> x.normal(0));
        b.refused(States::worked, "normal(1)", NONE, x -> x.normal(1));
        DifferenceFamilies x = States.worked();
        x.take(5, 7);
        b.due("take(5, 7); normal(5)", x.normal(5), NONE);
    }

    private void stabilizers() {
        b.test(21, "block: a base block, 0 to 5", () -> b.range(() -> {
            DifferenceFamilies x = States.worked();
            x.put(5, 3);
            return x;
        }, "stabilizer(?)", 0, 1, 5, 2, (x, block) -> x.stabilizer(block)));
        b.test(21, "Returns the number of elements by which it is translated to itself", this::leastAndGreatest);
        b.test(21, "BAD_VALUE", () -> b.refused(States::fresh, "stabilizer(6)", BAD_VALUE, x -> x.stabilizer(6)));
        b.test(21, "NONE if it is empty", this::noStabilizer);
    }

    private void leastAndGreatest() {
        b.due("stabilizer(0) of 0", States.family(7, 1, 0).stabilizer(0), 1);
        b.due("stabilizer(3) of all elements", wholeBlock().stabilizer(3), 40);
        b.due("stabilizer(0) of 5 and 25", States.family(40, 1, 5, 25).stabilizer(0), 2);
        b.due("2 * 2: stabilizer(0) of 1 and 2", States.family(2, 2, 1, 2).stabilizer(0), 2);
        b.due("2: stabilizer(0) of 1", States.family(2, 1, 1).stabilizer(0), 1);
        b.due("2: stabilizer(0) of 0 and 1", States.family(2, 1, 0, 1).stabilizer(0), 2);
        DifferenceFamilies x = wholeBlock();
        x.take(3, 39);
        b.due("stabilizer(3) of all elements but one", x.stabilizer(3), 1);
    }

    private void noStabilizer() {
        b.refused(States::fresh, "stabilizer(5)", NONE, x -> x.stabilizer(5));
        b.refused(States::worked, "stabilizer(1)", NONE, x -> x.stabilizer(1));
        DifferenceFamilies x = States.worked();
        x.take(5, 7);
        b.due("take(5, 7); stabilizer(5)", x.stabilizer(5), NONE);
    }

    private void sizes() {
        b.test(22, "Returns the number of elements of each base block that is not empty", this::sizesOfBlocks);
        b.test(22, "NONE if there is no such block, or not all have the same number", this::noSize);
    }

    private void sizesOfBlocks() {
        b.due("blockSize() of one element", States.family(7, 1, 6).blockSize(), 1);
        b.due("blockSize() of all elements", wholeBlock().blockSize(), 40);
        b.due("blockSize() of six blocks", States.full().blockSize(), 2);
    }

    private void noSize() {
        b.refused(States::fresh, "blockSize()", NONE, x -> x.blockSize());
        b.refused(States::worked, "blockSize()", NONE, x -> x.blockSize());
        DifferenceFamilies x = States.full();
        x.take(5, 39);
        b.due("take(5, 39); blockSize()", x.blockSize(), NONE);
        x.take(5, 5);
        b.due("take(5, 5); blockSize()", x.blockSize(), 2);
        DifferenceFamilies y = States.family(7, 1, 3);
        y.take(0, 3);
        b.due("take(0, 3); blockSize()", y.blockSize(), NONE);
    }
}
