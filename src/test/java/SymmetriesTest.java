/** Promises 28 to 32: multipliers, symmetries, canonical forms and equivalence. */
public final class SymmetriesTest {
    private static final Check CHECK = new Check("SymmetriesTest");
    private static final int BAD_VALUE = DifferenceFamilies.BAD_VALUE;
    private static final int NOT_POSSIBLE = DifferenceFamilies.NOT_POSSIBLE;
    private static final int NONE = DifferenceFamilies.NONE;

    public static void main(String[] args) {
        multipliers();
        multipliersOfNoFamily();
        multipliersOfPairs();
        symmetries();
        canonicalForms();
        canonicalFormIsComparedAsAList();
        equivalence();
        CHECK.end();
    }

    private static void multipliers() {
        DifferenceFamilies x = new DifferenceFamilies();
        Check.putAll(x, 0, 0, 1, 3);
        for (int t = 1; t <= 6; t++) {
            CHECK.due(28, "isMultiplier(" + t + ")", x.isMultiplier(t), t == 1 || t == 2 || t == 4 ? 1 : 0);
        }
        CHECK.due(28, "isMultiplier(0)", x.isMultiplier(0), BAD_VALUE);
        CHECK.due(28, "isMultiplier(7)", x.isMultiplier(7), BAD_VALUE);
        CHECK.due(28, "isMultiplier(-1)", x.isMultiplier(-1), BAD_VALUE);
        CHECK.due(29, "multipliers()", x.multipliers(), Check.set(1, 2, 4));
        // Two blocks that are exchanged by 6: the order of the blocks does not count.
        Check.putAll(x, 1, 0, 6, 4);
        CHECK.due(28, "isMultiplier(6)", x.isMultiplier(6), 1);
        CHECK.due(29, "multipliers()", x.multipliers(), Check.set(1, 2, 3, 4, 5, 6));
        // With the first one twice, they are not.
        Check.putAll(x, 2, 0, 1, 3);
        CHECK.due(28, "isMultiplier(6)", x.isMultiplier(6), 0);
        CHECK.due(29, "multipliers()", x.multipliers(), Check.set(1, 2, 4));
    }

    private static void multipliersOfNoFamily() {
        DifferenceFamilies x = new DifferenceFamilies();
        x.setGroup(4, 3);
        CHECK.due(29, "multipliers()", x.multipliers(), Check.set(1, 5, 7, 11));
        CHECK.due(28, "isMultiplier(2)", x.isMultiplier(2), 0);
        CHECK.due(28, "isMultiplier(5)", x.isMultiplier(5), 1);
        CHECK.due(28, "isMultiplier(12)", x.isMultiplier(12), BAD_VALUE);
        x.setGroup(2, 1);
        CHECK.due(29, "multipliers()", x.multipliers(), 2);
        CHECK.due(28, "isMultiplier(2)", x.isMultiplier(2), BAD_VALUE);
        x.setGroup(40, 1);
        CHECK.due(29, "multipliers()", x.multipliers(),
                Check.set(1, 3, 7, 9, 11, 13, 17, 19, 21, 23, 27, 29, 31, 33, 37, 39));
    }

    private static void multipliersOfPairs() {
        DifferenceFamilies x = new DifferenceFamilies();
        x.setGroup(3, 3);
        // t and t + 3 give the same map, but 3 and 6 have a common divisor with 9.
        Check.putAll(x, 0, 0, 1, 3, 4);
        CHECK.due(29, "multipliers()", x.multipliers(), Check.set(1, 2, 4, 5, 7, 8));
        CHECK.due(28, "isMultiplier(6)", x.isMultiplier(6), 0);
    }

    private static void symmetries() {
        DifferenceFamilies x = new DifferenceFamilies();
        CHECK.due(30, "symmetries()", x.symmetries(), 6);
        Check.putAll(x, 0, 0, 1, 3);
        CHECK.due(30, "symmetries()", x.symmetries(), 3);
        x.shift(0, 5);
        CHECK.due(30, "symmetries()", x.symmetries(), 3);
        x.setGroup(5, 5);
        CHECK.due(30, "symmetries()", x.symmetries(), 480);
        // A subgroup of order 5 is kept by 4 * 4 * 5 automorphisms.
        Check.putAll(x, 0, 1, 6, 11, 16, 21);
        CHECK.due(30, "symmetries()", x.symmetries(), 80);
        // Two of them, in any order: 2 * 4 * 4.
        Check.putAll(x, 3, 5, 6, 7, 8, 9);
        CHECK.due(30, "symmetries()", x.symmetries(), 32);
    }

    private static void canonicalForms() {
        DifferenceFamilies x = new DifferenceFamilies();
        CHECK.due(31, "canonical(0)", x.canonical(0), NONE);
        CHECK.due(31, "canonical(-1)", x.canonical(-1), BAD_VALUE);
        CHECK.due(31, "canonical(MIN)", x.canonical(Integer.MIN_VALUE), BAD_VALUE);
        // 13 is the image of 11 by 6.
        Check.putAll(x, 4, 0, 2, 3);
        CHECK.due(20, "normal(4)", x.normal(4), 13);
        CHECK.due(31, "canonical(0)", x.canonical(0), 11);
        CHECK.due(31, "canonical(1)", x.canonical(1), NONE);
        CHECK.due(31, "canonical(MAX)", x.canonical(Integer.MAX_VALUE), NONE);
        Check.putAll(x, 1, 2, 4, 5);
        CHECK.due(31, "canonical(0)", x.canonical(0), 11);
        CHECK.due(31, "canonical(1)", x.canonical(1), 11);
        CHECK.due(31, "canonical(2)", x.canonical(2), NONE);
        Check.putAll(x, 0, 6);
        CHECK.due(31, "canonical(0)", x.canonical(0), 1);
        CHECK.due(31, "canonical(2)", x.canonical(2), 11);
        CHECK.due(31, "canonical(3)", x.canonical(3), NONE);
    }

    private static void canonicalFormIsComparedAsAList() {
        DifferenceFamilies x = new DifferenceFamilies();
        // The pairs of the differences 1, 2 and 3 have the normal forms 3, 5 and 9; the factor 3 brings 2 and 4 (which
        // is opposite to 3) to 6 (opposite to 1) and 5 (opposite to 2).
        Check.putAll(x, 0, 0, 2);
        Check.putAll(x, 1, 0, 4);
        CHECK.due(20, "normal(1)", x.normal(1), 9);
        CHECK.due(31, "canonical(0)", x.canonical(0), 3);
        CHECK.due(31, "canonical(1)", x.canonical(1), 5);
        for (int block = 2; block < 6; block++) {
            Check.putAll(x, block, block, block + 1);
        }
        // With four pairs of the difference 1, the factor 3 gives 3, 5, 9, 9, 9, 9, and 2 gives 3, 5, 5, 5, 5, 9.
        long[] due = {3, 3, 3, 3, 5, 9, NONE};
        for (int place = 0; place < due.length; place++) {
            CHECK.due(31, "canonical(" + place + ")", x.canonical(place), due[place]);
        }
    }

    private static void equivalence() {
        DifferenceFamilies x = new DifferenceFamilies();
        CHECK.due(32, "isEquivalent(0)", x.isEquivalent(0), NOT_POSSIBLE);
        CHECK.due(32, "isEquivalent(2)", x.isEquivalent(2), BAD_VALUE);
        CHECK.due(32, "isEquivalent(-1)", x.isEquivalent(-1), BAD_VALUE);
        x.keep(1);
        CHECK.due(32, "isEquivalent(0)", x.isEquivalent(0), NOT_POSSIBLE);
        CHECK.due(32, "isEquivalent(1)", x.isEquivalent(1), 1);
        Check.putAll(x, 0, 0, 1, 3);
        CHECK.due(32, "isEquivalent(1)", x.isEquivalent(1), 0);
        x.keep(0);
        x.multiply(6);
        x.shift(0, 4);
        CHECK.due(32, "isEquivalent(0)", x.isEquivalent(0), 1);
        // The hole does not count, nor do the numbers of the blocks.
        x.setHole(1, 0);
        CHECK.due(32, "isEquivalent(0)", x.isEquivalent(0), 1);
        x.clearText();
        x.read();
        Check.putAll(x, 5, 2, 3, 5);
        CHECK.due(32, "isEquivalent(0)", x.isEquivalent(0), 1);
        Check.putAll(x, 1, 2, 3, 5);
        CHECK.due(32, "isEquivalent(0)", x.isEquivalent(0), 0);
        // {0, 1, 3} twice, and once with its image by 6, which no automorphism brings to it together.
        x.keep(1);
        x.shift(1, 3);
        CHECK.due(32, "isEquivalent(1)", x.isEquivalent(1), 1);
        x.read();
        Check.putAll(x, 0, 0, 1, 3);
        Check.putAll(x, 1, 0, 6, 4);
        CHECK.due(32, "isEquivalent(1)", x.isEquivalent(1), 0);
        x.read();
        Check.putAll(x, 0, 0, 1, 2);
        Check.putAll(x, 1, 0, 1, 2);
        CHECK.due(32, "isEquivalent(1)", x.isEquivalent(1), 0);
    }
}
