/** Promises 11 to 22: the base blocks, their changes and the history. */
public final class BlocksTest {
    private static final Check CHECK = new Check("BlocksTest");
    private static final int BAD_VALUE = DifferenceFamilies.BAD_VALUE;
    private static final int NOT_POSSIBLE = DifferenceFamilies.NOT_POSSIBLE;
    private static final int NONE = DifferenceFamilies.NONE;

    public static void main(String[] args) {
        putAndTake();
        shifts();
        applies();
        multiplies();
        exchanges();
        improvements();
        improvementOrder();
        improvementKeepsToTheHole();
        history();
        whatIsAChange();
        errorsAreNoChanges();
        normalForms();
        stabilizers();
        blockSizes();
        CHECK.end();
    }

    private static void putAndTake() {
        DifferenceFamilies x = new DifferenceFamilies();
        CHECK.due(11, "put(5, 6)", x.put(5, 6), 1);
        CHECK.due(11, "put(5, 0)", x.put(5, 0), 2);
        CHECK.due(19, "block(5)", x.block(5), 65);
        CHECK.due(11, "put(5, 6)", x.put(5, 6), NOT_POSSIBLE);
        CHECK.due(11, "put(6, 0)", x.put(6, 0), BAD_VALUE);
        CHECK.due(11, "put(-1, 0)", x.put(-1, 0), BAD_VALUE);
        CHECK.due(11, "put(0, 7)", x.put(0, 7), BAD_VALUE);
        CHECK.due(11, "put(0, -1)", x.put(0, -1), BAD_VALUE);
        CHECK.due(11, "put(5, 70)", x.put(5, 70), BAD_VALUE);
        CHECK.due(12, "take(5, 1)", x.take(5, 1), NOT_POSSIBLE);
        CHECK.due(12, "take(4, 6)", x.take(4, 6), NOT_POSSIBLE);
        CHECK.due(12, "take(6, 6)", x.take(6, 6), BAD_VALUE);
        CHECK.due(12, "take(-1, 6)", x.take(-1, 6), BAD_VALUE);
        CHECK.due(12, "take(5, 7)", x.take(5, 7), BAD_VALUE);
        CHECK.due(12, "take(5, -1)", x.take(5, -1), BAD_VALUE);
        // 64 places on is the same bit of a shifted long.
        CHECK.due(12, "take(5, 64)", x.take(5, 64), BAD_VALUE);
        CHECK.due(12, "take(5, 6)", x.take(5, 6), 1);
        CHECK.due(12, "take(5, 0)", x.take(5, 0), 0);
        CHECK.due(19, "block(5)", x.block(5), 0);
        CHECK.due(19, "block(6)", x.block(6), BAD_VALUE);
        CHECK.due(19, "block(-1)", x.block(-1), BAD_VALUE);
        x.setGroup(40, 1);
        for (int e = 0; e < 40; e++) {
            CHECK.due(11, "put(3, " + e + ")", x.put(3, e), e + 1);
        }
        CHECK.due(19, "block(3)", x.block(3), (1L << 40) - 1);
    }

    private static void shifts() {
        DifferenceFamilies x = new DifferenceFamilies();
        Check.putAll(x, 1, 0, 1, 6);
        CHECK.due(13, "shift(1, 6)", x.shift(1, 6), 3);
        CHECK.due(19, "block(1)", x.block(1), Check.set(6, 0, 5));
        CHECK.due(13, "shift(1, 0)", x.shift(1, 0), 3);
        CHECK.due(19, "block(1)", x.block(1), Check.set(6, 0, 5));
        CHECK.due(13, "shift(0, 3)", x.shift(0, 3), 0);
        CHECK.due(13, "shift(6, 0)", x.shift(6, 0), BAD_VALUE);
        CHECK.due(13, "shift(-1, 0)", x.shift(-1, 0), BAD_VALUE);
        CHECK.due(13, "shift(1, 7)", x.shift(1, 7), BAD_VALUE);
        CHECK.due(13, "shift(1, -1)", x.shift(1, -1), BAD_VALUE);
        x.setGroup(3, 4);
        Check.putAll(x, 0, 0, 3, 11);
        // by (2, 3): (0, 0), (0, 3), (2, 3) become (2, 3), (2, 2), (1, 2)
        CHECK.due(13, "shift(0, 11)", x.shift(0, 11), 3);
        CHECK.due(19, "block(0)", x.block(0), Check.set(11, 10, 6));
    }

    private static void applies() {
        DifferenceFamilies x = new DifferenceFamilies();
        Check.putAll(x, 0, 1, 2, 4);
        Check.putAll(x, 2, 0);
        Check.putAll(x, 3, 1);
        CHECK.due(14, "apply(6)", x.apply(6), BAD_VALUE);
        CHECK.due(14, "apply(-1)", x.apply(-1), BAD_VALUE);
        // By 2, the set of 1, 2 and 4 goes to itself.
        CHECK.due(14, "apply(1)", x.apply(1), 1);
        CHECK.due(19, "block(0)", x.block(0), Check.set(1, 2, 4));
        CHECK.due(19, "block(2)", x.block(2), 1);
        CHECK.due(19, "block(3)", x.block(3), 4);
        CHECK.due(14, "apply(0)", x.apply(0), 0);
        CHECK.due(14, "apply(5)", x.apply(5), 2);
        CHECK.due(19, "block(0)", x.block(0), Check.set(6, 5, 3));
        CHECK.due(19, "block(3)", x.block(3), 32);
        x.setGroup(2, 2);
        Check.putAll(x, 0, 1);
        CHECK.due(14, "apply(4)", x.apply(4), 1);
        CHECK.due(19, "block(0)", x.block(0), 8);
    }

    private static void multiplies() {
        DifferenceFamilies x = new DifferenceFamilies();
        x.setGroup(3, 4);
        Check.putAll(x, 0, 1, 5);
        Check.putAll(x, 1, 6);
        CHECK.due(15, "multiply(0)", x.multiply(0), BAD_VALUE);
        CHECK.due(15, "multiply(-5)", x.multiply(-5), BAD_VALUE);
        CHECK.due(15, "multiply(2)", x.multiply(2), BAD_VALUE);
        CHECK.due(15, "multiply(9)", x.multiply(9), BAD_VALUE);
        CHECK.due(15, "multiply(12)", x.multiply(12), BAD_VALUE);
        CHECK.due(15, "multiply(1000)", x.multiply(1000), BAD_VALUE);
        CHECK.due(15, "multiply(1001)", x.multiply(1001), BAD_VALUE);
        CHECK.due(15, "multiply(13)", x.multiply(13), 0);
        // 5 * (0, 1) = (0, 1); 5 * (1, 1) = (2, 1); 5 * (1, 2) = (2, 2)
        CHECK.due(15, "multiply(5)", x.multiply(5), 2);
        CHECK.due(19, "block(0)", x.block(0), Check.set(1, 9));
        CHECK.due(19, "block(1)", x.block(1), Check.set(10));
        CHECK.due(15, "multiply(997)", x.multiply(997), 0);
        x.setGroup(7, 1);
        Check.putAll(x, 0, 1);
        CHECK.due(15, "multiply(1000)", x.multiply(1000), 1);
        CHECK.due(19, "block(0)", x.block(0), 64);
        CHECK.due(15, "multiply(994)", x.multiply(994), BAD_VALUE);
    }

    private static void exchanges() {
        DifferenceFamilies x = new DifferenceFamilies();
        Check.putAll(x, 0, 0, 1, 2);
        CHECK.due(16, "exchange(0, 2, 3)", x.exchange(0, 2, 3), 0);
        CHECK.due(19, "block(0)", x.block(0), 11);
        // 1 and 6 have the count 2, 2 and 5 the count 1, 3 and 4 the count 0.
        CHECK.due(16, "exchange(0, 3, 2)", x.exchange(0, 3, 2), 4);
        CHECK.due(16, "exchange(0, 3, 4)", x.exchange(0, 3, 4), NOT_POSSIBLE);
        CHECK.due(16, "exchange(0, 0, 1)", x.exchange(0, 0, 1), NOT_POSSIBLE);
        CHECK.due(16, "exchange(0, 0, 0)", x.exchange(0, 0, 0), NOT_POSSIBLE);
        CHECK.due(16, "exchange(0, 3, 3)", x.exchange(0, 3, 3), NOT_POSSIBLE);
        CHECK.due(16, "exchange(1, 0, 3)", x.exchange(1, 0, 3), NOT_POSSIBLE);
        CHECK.due(16, "exchange(6, 0, 3)", x.exchange(6, 0, 3), BAD_VALUE);
        CHECK.due(16, "exchange(-1, 0, 3)", x.exchange(-1, 0, 3), BAD_VALUE);
        CHECK.due(16, "exchange(0, 7, 3)", x.exchange(0, 7, 3), BAD_VALUE);
        CHECK.due(16, "exchange(0, -1, 3)", x.exchange(0, -1, 3), BAD_VALUE);
        CHECK.due(16, "exchange(0, 3, 7)", x.exchange(0, 3, 7), BAD_VALUE);
        CHECK.due(16, "exchange(0, 0, -1)", x.exchange(0, 0, -1), BAD_VALUE);
        CHECK.due(19, "block(0)", x.block(0), 7);
    }

    private static void improvements() {
        DifferenceFamilies x = new DifferenceFamilies();
        CHECK.due(17, "improve(0)", x.improve(0), BAD_VALUE);
        CHECK.due(17, "improve(21)", x.improve(21), BAD_VALUE);
        CHECK.due(17, "improve(1)", x.improve(1), NONE);
        CHECK.due(17, "improve(20)", x.improve(20), NONE);
        Check.putAll(x, 0, 0, 1, 2);
        // Lowest x first: 0 for 4 gives the set of 1, 2 and 4, whose differences are all different.
        CHECK.due(17, "improve(1)", x.improve(1), 0);
        CHECK.due(19, "block(0)", x.block(0), Check.set(1, 2, 4));
        CHECK.due(17, "improve(1)", x.improve(1), NONE);
        CHECK.due(18, "undo()", x.undo(), 3);
        CHECK.due(19, "block(0)", x.block(0), 7);
    }

    private static void improvementOrder() {
        DifferenceFamilies x = new DifferenceFamilies();
        // Two blocks of the same kind: the lower one is improved.
        Check.putAll(x, 2, 0, 1, 2);
        Check.putAll(x, 4, 0, 1, 2);
        CHECK.due(27, "deficiency(2)", x.deficiency(2), 8);
        CHECK.due(17, "improve(2)", x.improve(2), 4);
        CHECK.due(19, "block(2)", x.block(2), Check.set(1, 2, 4));
        CHECK.due(19, "block(4)", x.block(4), 7);
        CHECK.due(17, "improve(2)", x.improve(2), 0);
        CHECK.due(19, "block(4)", x.block(4), Check.set(1, 2, 4));
        CHECK.due(26, "index()", x.index(), 2);
        // All exchanges of a block of one element leave its counts as they are.
        x.setGroup(5, 1);
        x.put(0, 3);
        CHECK.due(17, "improve(1)", x.improve(1), NONE);
    }

    private static void improvementKeepsToTheHole() {
        DifferenceFamilies x = new DifferenceFamilies();
        x.setGroup(6, 1);
        x.setHole(3, 0);
        Check.putAll(x, 0, 0, 3);
        // The count 2 of 3 is too many, and 1, 2, 4 and 5 lack one each.
        CHECK.due(27, "deficiency(1)", x.deficiency(1), 6);
        CHECK.due(17, "improve(1)", x.improve(1), 2);
        CHECK.due(19, "block(0)", x.block(0), Check.set(1, 3));
    }

    private static void history() {
        DifferenceFamilies x = new DifferenceFamilies();
        for (int e = 0; e < 7; e++) {
            x.put(e % 2, e);
        }
        for (int left = 4; left >= 0; left--) {
            CHECK.due(18, "undo()", x.undo(), left);
        }
        CHECK.due(18, "undo()", x.undo(), NOT_POSSIBLE);
        CHECK.due(19, "block(0)", x.block(0), 1);
        CHECK.due(19, "block(1)", x.block(1), 2);
        x.put(0, 5);
        x.setHole(0, 0);
        CHECK.due(18, "undo()", x.undo(), NOT_POSSIBLE);
        x.put(0, 6);
        x.keep(0);
        CHECK.due(18, "undo()", x.undo(), 0);
        x.put(0, 6);
        x.restore(0);
        CHECK.due(18, "undo()", x.undo(), NOT_POSSIBLE);
        CHECK.due(19, "block(0)", x.block(0), Check.set(0, 5, 6));
    }

    private static void whatIsAChange() {
        DifferenceFamilies x = new DifferenceFamilies();
        // These change no set, but return neither an error nor NONE.
        x.shift(0, 0);
        x.apply(0);
        x.multiply(1);
        x.read();
        CHECK.due(18, "undo()", x.undo(), 3);
        x.search(3, 1, 1, 1, 100);
        x.takeSolution();
        CHECK.due(18, "undo()", x.undo(), 3);
        CHECK.due(18, "block(0)", x.block(0), 0);
        x.put(0, 2);
        x.exchange(0, 2, 3);
        CHECK.due(18, "undo()", x.undo(), 4);
        CHECK.due(18, "block(0)", x.block(0), 4);
        x.take(0, 2);
        CHECK.due(18, "undo()", x.undo(), 4);
        CHECK.due(18, "block(0)", x.block(0), 4);
    }

    private static void errorsAreNoChanges() {
        DifferenceFamilies x = new DifferenceFamilies();
        x.put(0, 1);
        x.append('x');
        x.put(0, 1);
        x.put(0, 9);
        x.take(0, 2);
        x.take(7, 2);
        x.shift(0, 7);
        x.apply(6);
        x.multiply(7);
        x.exchange(0, 1, 1);
        x.improve(1);
        x.improve(0);
        x.read();
        x.takeSolution();
        x.setHole(7, 7);
        x.restore(0);
        x.restore(2);
        x.setGroup(1, 1);
        CHECK.due(18, "undo()", x.undo(), 0);
        CHECK.due(18, "block(0)", x.block(0), 0);
    }

    private static void normalForms() {
        DifferenceFamilies x = new DifferenceFamilies();
        CHECK.due(20, "normal(0)", x.normal(0), NONE);
        CHECK.due(20, "normal(6)", x.normal(6), BAD_VALUE);
        CHECK.due(20, "normal(-1)", x.normal(-1), BAD_VALUE);
        Check.putAll(x, 0, 2, 4, 5);
        CHECK.due(20, "normal(0)", x.normal(0), 13);
        Check.putAll(x, 1, 6, 0);
        CHECK.due(20, "normal(1)", x.normal(1), 3);
        x.setGroup(2, 2);
        // The translates of (0, 0), (1, 1) are itself, 9, and (0, 1), (1, 0), which is 6: without the element 0.
        Check.putAll(x, 0, 0, 3);
        CHECK.due(20, "normal(0)", x.normal(0), 6);
        x.setGroup(3, 4);
        Check.putAll(x, 0, 8, 11);
        CHECK.due(20, "normal(0)", x.normal(0), 3);
        x.setGroup(40, 1);
        Check.putAll(x, 0, 39, 1);
        CHECK.due(20, "normal(0)", x.normal(0), 5);
    }

    private static void stabilizers() {
        DifferenceFamilies x = new DifferenceFamilies();
        CHECK.due(21, "stabilizer(0)", x.stabilizer(0), NONE);
        CHECK.due(21, "stabilizer(6)", x.stabilizer(6), BAD_VALUE);
        CHECK.due(21, "stabilizer(-1)", x.stabilizer(-1), BAD_VALUE);
        Check.putAll(x, 0, 0, 1, 2, 3, 4, 5, 6);
        CHECK.due(21, "stabilizer(0)", x.stabilizer(0), 7);
        x.take(0, 3);
        CHECK.due(21, "stabilizer(0)", x.stabilizer(0), 1);
        x.setGroup(4, 4);
        Check.putAll(x, 3, 1, 3, 9, 11);
        CHECK.due(21, "stabilizer(3)", x.stabilizer(3), 4);
        x.take(3, 11);
        x.take(3, 1);
        CHECK.due(21, "stabilizer(3)", x.stabilizer(3), 2);
    }

    private static void blockSizes() {
        DifferenceFamilies x = new DifferenceFamilies();
        CHECK.due(22, "blockSize()", x.blockSize(), NONE);
        Check.putAll(x, 5, 1, 2, 3);
        CHECK.due(22, "blockSize()", x.blockSize(), 3);
        Check.putAll(x, 0, 1, 2);
        CHECK.due(22, "blockSize()", x.blockSize(), NONE);
        x.put(0, 6);
        CHECK.due(22, "blockSize()", x.blockSize(), 3);
        x.put(0, 5);
        CHECK.due(22, "blockSize()", x.blockSize(), NONE);
    }
}
