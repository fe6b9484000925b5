/** Promises 1 to 10: a new object and the group. */
public final class GroupTest {
    private static final Check CHECK = new Check("GroupTest");
    private static final int BAD_VALUE = DifferenceFamilies.BAD_VALUE;
    private static final int NOT_POSSIBLE = DifferenceFamilies.NOT_POSSIBLE;
    private static final int NONE = DifferenceFamilies.NONE;

    public static void main(String[] args) {
        newObject();
        groupsInRange();
        groupsOutOfRange();
        groupResets();
        sums();
        multiples();
        ordersOfElements();
        numbersOfAutomorphisms();
        images();
        holes();
        CHECK.end();
    }

    private static void newObject() {
        DifferenceFamilies x = new DifferenceFamilies();
        CHECK.due(1, "order()", x.order(), 7);
        CHECK.due(1, "automorphisms()", x.automorphisms(), 6);
        CHECK.due(1, "hole()", x.hole(), 1);
        for (int block = 0; block < 6; block++) {
            CHECK.due(1, "block(" + block + ")", x.block(block), 0);
        }
        CHECK.due(1, "undo()", x.undo(), NOT_POSSIBLE);
        CHECK.due(1, "searchSteps()", x.searchSteps(), 0);
        CHECK.due(1, "candidates()", x.candidates(), 0);
        CHECK.due(1, "takeSolution()", x.takeSolution(), NOT_POSSIBLE);
        CHECK.due(1, "faultPosition()", x.faultPosition(), NONE);
        CHECK.due(1, "clearText()", x.clearText(), 0);
        for (int slot = 0; slot < 2; slot++) {
            CHECK.due(1, "isEquivalent(" + slot + ")", x.isEquivalent(slot), NOT_POSSIBLE);
            CHECK.due(1, "restore(" + slot + ")", x.restore(slot), NOT_POSSIBLE);
        }
    }

    private static void groupsInRange() {
        DifferenceFamilies x = new DifferenceFamilies();
        int before = 7;
        for (int n = 2; n <= 40; n++) {
            for (int m = 1; n * m <= 40; m++) {
                CHECK.due(2, "setGroup(" + n + ", " + m + ")", x.setGroup(n, m), before);
                before = n * m;
                CHECK.due(3, "order()", x.order(), before);
            }
        }
    }

    private static void groupsOutOfRange() {
        DifferenceFamilies x = new DifferenceFamilies();
        int[][] wrong = {{1, 1}, {1, 7}, {0, 3}, {-2, -3}, {2, 0}, {7, -1}, {41, 1}, {2, 21}, {21, 2}, {7, 6}, {6, 7},
            {1 << 16, 1 << 16}, {1 << 30, 4}, {4, 1 << 30}, {Integer.MAX_VALUE, Integer.MAX_VALUE},
            {Integer.MIN_VALUE, 1}, {2, Integer.MIN_VALUE}, {Integer.MAX_VALUE, 2}};
        x.put(0, 3);
        x.setHole(0, 0);
        x.put(1, 4);
        x.keep(0);
        x.search(3, 1, 1, 1, 100);
        for (int[] pair : wrong) {
            CHECK.due(2, "setGroup(" + pair[0] + ", " + pair[1] + ")", x.setGroup(pair[0], pair[1]), BAD_VALUE);
        }
        CHECK.due(2, "order()", x.order(), 7);
        CHECK.due(2, "block(0)", x.block(0), 8);
        CHECK.due(2, "block(1)", x.block(1), 16);
        CHECK.due(2, "candidates()", x.candidates(), 5);
        CHECK.due(2, "isEquivalent(0)", x.isEquivalent(0), 1);
        CHECK.due(2, "undo()", x.undo(), 0);
    }

    private static void groupResets() {
        DifferenceFamilies x = new DifferenceFamilies();
        x.setGroup(3, 3);
        x.setHole(4, 0);
        Check.putAll(x, 0, 0, 1, 3);
        Check.putAll(x, 5, 8);
        x.keep(0);
        x.keep(1);
        Check.appendAll(x, "0,1;");
        CHECK.due(40, "search(2, 1, 1, 1, 50)", x.search(2, 1, 1, 1, 50), 0);
        CHECK.due(2, "setGroup(3, 3)", x.setGroup(3, 3), 9);
        CHECK.due(2, "hole()", x.hole(), 1);
        for (int block = 0; block < 6; block++) {
            CHECK.due(2, "block(" + block + ")", x.block(block), 0);
        }
        CHECK.due(2, "undo()", x.undo(), NOT_POSSIBLE);
        CHECK.due(2, "searchSteps()", x.searchSteps(), 0);
        CHECK.due(2, "candidates()", x.candidates(), 0);
        CHECK.due(2, "takeSolution()", x.takeSolution(), NOT_POSSIBLE);
        CHECK.due(2, "isEquivalent(0)", x.isEquivalent(0), NOT_POSSIBLE);
        CHECK.due(2, "restore(1)", x.restore(1), NOT_POSSIBLE);
        // The text is not named among what becomes as at first; its faults are those of the new group.
        CHECK.due(46, "faultPosition()", x.faultPosition(), 1);
        x.setGroup(7, 1);
        CHECK.due(46, "faultPosition()", x.faultPosition(), NONE);
        CHECK.due(45, "clearText()", x.clearText(), 4);
        CHECK.due(40, "search(3, 1, 1, 1, 100)", x.search(3, 1, 1, 1, 100), 2);
        x.setGroup(7, 1);
        CHECK.due(43, "takeSolution()", x.takeSolution(), NOT_POSSIBLE);
    }

    private static void sums() {
        DifferenceFamilies x = new DifferenceFamilies();
        CHECK.due(4, "sum(6, 6)", x.sum(6, 6), 5);
        CHECK.due(4, "sum(0, 0)", x.sum(0, 0), 0);
        CHECK.due(4, "sum(7, 0)", x.sum(7, 0), BAD_VALUE);
        CHECK.due(4, "sum(0, 7)", x.sum(0, 7), BAD_VALUE);
        CHECK.due(4, "sum(-1, 0)", x.sum(-1, 0), BAD_VALUE);
        CHECK.due(4, "sum(0, -1)", x.sum(0, -1), BAD_VALUE);
        x.setGroup(4, 6);
        // (3, 5) + (2, 4) = (1, 3)
        CHECK.due(4, "sum(23, 16)", x.sum(23, 16), 9);
        // (0, 5) + (0, 1) = (0, 0), and not (1, 0)
        CHECK.due(4, "sum(5, 1)", x.sum(5, 1), 0);
        CHECK.due(4, "sum(24, 1)", x.sum(24, 1), BAD_VALUE);
        CHECK.due(4, "sum(MIN, MAX)", x.sum(Integer.MIN_VALUE, Integer.MAX_VALUE), BAD_VALUE);
    }

    private static void multiples() {
        DifferenceFamilies x = new DifferenceFamilies();
        x.setGroup(4, 6);
        CHECK.due(5, "multiple(23, 0)", x.multiple(23, 0), 0);
        CHECK.due(5, "multiple(23, 1)", x.multiple(23, 1), 23);
        // 3 * (3, 5) = (1, 3)
        CHECK.due(5, "multiple(23, 3)", x.multiple(23, 3), 9);
        // 1000 * (3, 5) = (0, 2)
        CHECK.due(5, "multiple(23, 1000)", x.multiple(23, 1000), 2);
        CHECK.due(5, "multiple(0, 1000)", x.multiple(0, 1000), 0);
        CHECK.due(5, "multiple(23, 1001)", x.multiple(23, 1001), BAD_VALUE);
        CHECK.due(5, "multiple(23, -1)", x.multiple(23, -1), BAD_VALUE);
        CHECK.due(5, "multiple(24, 1)", x.multiple(24, 1), BAD_VALUE);
        CHECK.due(5, "multiple(-1, 1)", x.multiple(-1, 1), BAD_VALUE);
        x.setGroup(37, 1);
        CHECK.due(5, "multiple(36, 999)", x.multiple(36, 999), 0);
        CHECK.due(5, "multiple(36, 1000)", x.multiple(36, 1000), 36);
    }

    private static void ordersOfElements() {
        DifferenceFamilies x = new DifferenceFamilies();
        CHECK.due(6, "orderOf(0)", x.orderOf(0), 1);
        CHECK.due(6, "orderOf(6)", x.orderOf(6), 7);
        CHECK.due(6, "orderOf(7)", x.orderOf(7), BAD_VALUE);
        CHECK.due(6, "orderOf(-1)", x.orderOf(-1), BAD_VALUE);
        x.setGroup(4, 6);
        CHECK.due(6, "orderOf(1)", x.orderOf(1), 6);
        CHECK.due(6, "orderOf(2)", x.orderOf(2), 3);
        CHECK.due(6, "orderOf(6)", x.orderOf(6), 4);
        CHECK.due(6, "orderOf(7)", x.orderOf(7), 12);
        CHECK.due(6, "orderOf(12)", x.orderOf(12), 2);
        CHECK.due(6, "orderOf(24)", x.orderOf(24), BAD_VALUE);
        x.setGroup(40, 1);
        CHECK.due(6, "orderOf(39)", x.orderOf(39), 40);
        CHECK.due(6, "orderOf(24)", x.orderOf(24), 5);
    }

    private static void numbersOfAutomorphisms() {
        DifferenceFamilies x = new DifferenceFamilies();
        int[][] known = {{2, 1, 1}, {7, 1, 6}, {12, 1, 4}, {40, 1, 16}, {2, 2, 6}, {4, 4, 96}, {5, 5, 480}, {6, 6, 288},
            {3, 3, 48}, {3, 9, 108}, {9, 3, 108}, {2, 4, 8}, {4, 2, 8}, {3, 4, 4}, {2, 20, 32}, {37, 1, 36}, {5, 8, 16}};
        for (int[] group : known) {
            x.setGroup(group[0], group[1]);
            CHECK.due(7, "setGroup(" + group[0] + ", " + group[1] + "); automorphisms()", x.automorphisms(), group[2]);
        }
    }

    private static void images() {
        DifferenceFamilies x = new DifferenceFamilies();
        for (int automorphism = 0; automorphism < 6; automorphism++) {
            for (int e = 0; e < 7; e++) {
                CHECK.due(8, "image(" + automorphism + ", " + e + ")", x.image(automorphism, e),
                        (automorphism + 1) * e % 7);
            }
        }
        CHECK.due(8, "image(6, 0)", x.image(6, 0), BAD_VALUE);
        CHECK.due(8, "image(-1, 0)", x.image(-1, 0), BAD_VALUE);
        CHECK.due(8, "image(0, 7)", x.image(0, 7), BAD_VALUE);
        CHECK.due(8, "image(0, -1)", x.image(0, -1), BAD_VALUE);
        x.setGroup(2, 2);
        int[][] inOrder = {{0, 1, 2, 3}, {0, 1, 3, 2}, {0, 2, 1, 3}, {0, 2, 3, 1}, {0, 3, 1, 2}, {0, 3, 2, 1}};
        for (int automorphism = 0; automorphism < 6; automorphism++) {
            for (int e = 0; e < 4; e++) {
                CHECK.due(8, "image(" + automorphism + ", " + e + ")", x.image(automorphism, e),
                        inOrder[automorphism][e]);
            }
        }
        x.setGroup(5, 5);
        CHECK.due(8, "image(479, 1)", x.image(479, 1), 24);
        CHECK.due(8, "image(479, 5)", x.image(479, 5), 23);
        CHECK.due(8, "image(480, 1)", x.image(480, 1), BAD_VALUE);
    }

    private static void holes() {
        DifferenceFamilies x = new DifferenceFamilies();
        x.setGroup(6, 6);
        Check.putAll(x, 0, 1, 2);
        CHECK.due(9, "setHole(36, 0)", x.setHole(36, 0), BAD_VALUE);
        CHECK.due(9, "setHole(0, 36)", x.setHole(0, 36), BAD_VALUE);
        CHECK.due(9, "setHole(-1, 0)", x.setHole(-1, 0), BAD_VALUE);
        CHECK.due(9, "setHole(0, -1)", x.setHole(0, -1), BAD_VALUE);
        CHECK.due(10, "hole()", x.hole(), 1);
        CHECK.due(18, "undo()", x.undo(), 1);
        CHECK.due(9, "setHole(0, 0)", x.setHole(0, 0), 1);
        CHECK.due(9, "undo()", x.undo(), NOT_POSSIBLE);
        CHECK.due(9, "block(0)", x.block(0), 2);
        CHECK.due(9, "setHole(2, 0)", x.setHole(2, 0), 3);
        CHECK.due(10, "hole()", x.hole(), Check.set(0, 2, 4));
        // (0, 3) and (3, 0)
        CHECK.due(9, "setHole(3, 18)", x.setHole(3, 18), 4);
        CHECK.due(10, "hole()", x.hole(), Check.set(0, 3, 18, 21));
        CHECK.due(9, "setHole(7, 7)", x.setHole(7, 7), 6);
        CHECK.due(10, "hole()", x.hole(), Check.set(0, 7, 14, 21, 28, 35));
        CHECK.due(9, "setHole(1, 6)", x.setHole(1, 6), 36);
        CHECK.due(10, "hole()", x.hole(), (1L << 36) - 1);
        x.setGroup(40, 1);
        // 16 and 10 give all even numbers.
        CHECK.due(9, "setHole(16, 10)", x.setHole(16, 10), 20);
        CHECK.due(10, "hole()", x.hole(), 0x5555555555L);
    }
}
