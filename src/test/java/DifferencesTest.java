/** Promises 23 to 27: the counts of the differences. */
public final class DifferencesTest {
    private static final Check CHECK = new Check("DifferencesTest");
    private static final int BAD_VALUE = DifferenceFamilies.BAD_VALUE;
    private static final int NONE = DifferenceFamilies.NONE;

    public static void main(String[] args) {
        noBlocks();
        counts();
        indexes();
        indexesWithHole();
        wholeGroupAsHole();
        deficiencies();
        CHECK.end();
    }

    private static void noBlocks() {
        DifferenceFamilies x = new DifferenceFamilies();
        CHECK.due(23, "count(1)", x.count(1), 0);
        CHECK.due(24, "covered()", x.covered(), 0);
        CHECK.due(25, "greatestCount()", x.greatestCount(), 0);
        CHECK.due(26, "index()", x.index(), NONE);
        CHECK.due(27, "deficiency(1)", x.deficiency(1), 6);
        CHECK.due(27, "deficiency(20)", x.deficiency(20), 120);
        x.put(0, 3);
        x.put(1, 4);
        CHECK.due(25, "greatestCount()", x.greatestCount(), 0);
    }

    private static void counts() {
        DifferenceFamilies x = new DifferenceFamilies();
        x.setGroup(3, 3);
        Check.putAll(x, 0, 0, 1, 5);
        Check.putAll(x, 5, 0, 1);
        // (0, 1) - (0, 0) twice; (1, 2) - (0, 0); (1, 2) - (0, 1) = (1, 1); and what is opposite to these
        int[] due = {0, 2, 2, 0, 1, 1, 0, 1, 1};
        for (int d = 1; d < 9; d++) {
            CHECK.due(23, "count(" + d + ")", x.count(d), due[d]);
        }
        CHECK.due(23, "count(0)", x.count(0), BAD_VALUE);
        CHECK.due(23, "count(9)", x.count(9), BAD_VALUE);
        CHECK.due(23, "count(-1)", x.count(-1), BAD_VALUE);
        CHECK.due(24, "covered()", x.covered(), 6);
        CHECK.due(25, "greatestCount()", x.greatestCount(), 2);
        x.setGroup(8, 1);
        Check.putAll(x, 0, 0, 4);
        CHECK.due(23, "count(4)", x.count(4), 2);
        CHECK.due(24, "covered()", x.covered(), 1);
        x.setGroup(40, 1);
        for (int block = 0; block < 6; block++) {
            for (int e = 0; e < 40; e++) {
                x.put(block, e);
            }
        }
        CHECK.due(25, "greatestCount()", x.greatestCount(), 240);
        CHECK.due(26, "index()", x.index(), 240);
    }

    private static void indexes() {
        DifferenceFamilies x = new DifferenceFamilies();
        Check.putAll(x, 0, 0, 1, 3);
        CHECK.due(26, "index()", x.index(), 1);
        Check.putAll(x, 1, 0, 1, 3);
        CHECK.due(26, "index()", x.index(), 2);
        Check.putAll(x, 2, 0, 1);
        CHECK.due(26, "index()", x.index(), NONE);
        x.take(2, 0);
        CHECK.due(26, "index()", x.index(), 2);
    }

    private static void indexesWithHole() {
        DifferenceFamilies x = new DifferenceFamilies();
        x.setGroup(8, 1);
        Check.putAll(x, 0, 0, 1, 3);
        CHECK.due(26, "index()", x.index(), NONE);
        CHECK.due(9, "setHole(4, 0)", x.setHole(4, 0), 2);
        CHECK.due(26, "index()", x.index(), 1);
        CHECK.due(27, "deficiency(1)", x.deficiency(1), 0);
        CHECK.due(27, "deficiency(3)", x.deficiency(3), 12);
        Check.putAll(x, 1, 0, 4);
        CHECK.due(26, "index()", x.index(), NONE);
        CHECK.due(27, "deficiency(1)", x.deficiency(1), 2);
        CHECK.due(9, "setHole(2, 0)", x.setHole(2, 0), 4);
        CHECK.due(26, "index()", x.index(), NONE);
        CHECK.due(27, "deficiency(1)", x.deficiency(1), 4);
    }

    private static void wholeGroupAsHole() {
        DifferenceFamilies x = new DifferenceFamilies();
        x.setHole(1, 0);
        CHECK.due(26, "index()", x.index(), NONE);
        CHECK.due(27, "deficiency(5)", x.deficiency(5), 0);
        x.put(0, 3);
        CHECK.due(26, "index()", x.index(), NONE);
        Check.putAll(x, 0, 0, 1);
        CHECK.due(26, "index()", x.index(), NONE);
        CHECK.due(27, "deficiency(5)", x.deficiency(5), 6);
    }

    private static void deficiencies() {
        DifferenceFamilies x = new DifferenceFamilies();
        Check.putAll(x, 0, 0, 1, 2);
        CHECK.due(27, "deficiency(1)", x.deficiency(1), 4);
        CHECK.due(27, "deficiency(2)", x.deficiency(2), 6);
        CHECK.due(27, "deficiency(20)", x.deficiency(20), 114);
        CHECK.due(27, "deficiency(0)", x.deficiency(0), BAD_VALUE);
        CHECK.due(27, "deficiency(21)", x.deficiency(21), BAD_VALUE);
        CHECK.due(27, "deficiency(-1)", x.deficiency(-1), BAD_VALUE);
    }
}
