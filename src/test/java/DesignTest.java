/** Promises 33 to 39: the design and its numbers. */
public final class DesignTest {
    private static final Check CHECK = new Check("DesignTest");
    private static final int BAD_VALUE = DifferenceFamilies.BAD_VALUE;

    public static void main(String[] args) {
        noDesign();
        fano();
        shortOrbits();
        equalBaseBlocks();
        twoFactors();
        ranks();
        disjointBlocks();
        greatestDesign();
        CHECK.end();
    }

    private static void noDesign() {
        DifferenceFamilies x = new DifferenceFamilies();
        CHECK.due(33, "designBlocks()", x.designBlocks(), 0);
        CHECK.due(34, "designBlock(0)", x.designBlock(0), BAD_VALUE);
        CHECK.due(35, "replication(0)", x.replication(0), 0);
        CHECK.due(36, "pairs(0, 1)", x.pairs(0, 1), 0);
        CHECK.due(37, "intersections(0)", x.intersections(0), 0);
        CHECK.due(38, "rank(2)", x.rank(2), 0);
        CHECK.due(39, "disjointBlocks()", x.disjointBlocks(), 0);
    }

    private static void fano() {
        DifferenceFamilies x = new DifferenceFamilies();
        Check.putAll(x, 2, 0, 1, 3);
        CHECK.due(33, "designBlocks()", x.designBlocks(), 7);
        for (int g = 0; g < 7; g++) {
            CHECK.due(34, "designBlock(" + g + ")", x.designBlock(g), Check.set(g, (g + 1) % 7, (g + 3) % 7));
            CHECK.due(35, "replication(" + g + ")", x.replication(g), 3);
        }
        CHECK.due(34, "designBlock(7)", x.designBlock(7), BAD_VALUE);
        CHECK.due(34, "designBlock(-1)", x.designBlock(-1), BAD_VALUE);
        CHECK.due(35, "replication(7)", x.replication(7), BAD_VALUE);
        CHECK.due(35, "replication(-1)", x.replication(-1), BAD_VALUE);
        CHECK.due(36, "pairs(6, 0)", x.pairs(6, 0), 1);
        CHECK.due(36, "pairs(3, 3)", x.pairs(3, 3), BAD_VALUE);
        CHECK.due(36, "pairs(7, 0)", x.pairs(7, 0), BAD_VALUE);
        CHECK.due(36, "pairs(0, 7)", x.pairs(0, 7), BAD_VALUE);
        CHECK.due(36, "pairs(-1, 0)", x.pairs(-1, 0), BAD_VALUE);
        CHECK.due(36, "pairs(0, -1)", x.pairs(0, -1), BAD_VALUE);
        CHECK.due(37, "intersections(0)", x.intersections(0), 0);
        CHECK.due(37, "intersections(1)", x.intersections(1), 21);
        CHECK.due(37, "intersections(3)", x.intersections(3), 0);
        CHECK.due(37, "intersections(40)", x.intersections(40), 0);
        CHECK.due(37, "intersections(41)", x.intersections(41), BAD_VALUE);
        CHECK.due(37, "intersections(-1)", x.intersections(-1), BAD_VALUE);
        CHECK.due(39, "disjointBlocks()", x.disjointBlocks(), 1);
    }

    private static void shortOrbits() {
        DifferenceFamilies x = new DifferenceFamilies();
        x.setGroup(6, 1);
        Check.putAll(x, 0, 1, 4);
        Check.putAll(x, 3, 0, 2, 4);
        CHECK.due(33, "designBlocks()", x.designBlocks(), 5);
        long[] due = {Check.set(1, 4), Check.set(2, 5), Check.set(0, 3), Check.set(0, 2, 4), Check.set(1, 3, 5)};
        for (int number = 0; number < 5; number++) {
            CHECK.due(34, "designBlock(" + number + ")", x.designBlock(number), due[number]);
        }
        CHECK.due(34, "designBlock(5)", x.designBlock(5), BAD_VALUE);
        CHECK.due(35, "replication(5)", x.replication(5), 2);
        CHECK.due(36, "pairs(0, 3)", x.pairs(0, 3), 1);
        CHECK.due(36, "pairs(0, 1)", x.pairs(0, 1), 0);
        // Each pair of the first kind has one element of each set of the second kind.
        CHECK.due(37, "intersections(0)", x.intersections(0), 4);
        CHECK.due(37, "intersections(1)", x.intersections(1), 6);
        CHECK.due(39, "disjointBlocks()", x.disjointBlocks(), 3);
    }

    private static void equalBaseBlocks() {
        DifferenceFamilies x = new DifferenceFamilies();
        x.setGroup(5, 1);
        // Only translates of the same base block are left out.
        Check.putAll(x, 0, 0, 1);
        Check.putAll(x, 1, 1, 2);
        CHECK.due(33, "designBlocks()", x.designBlocks(), 10);
        CHECK.due(34, "designBlock(5)", x.designBlock(5), 6);
        CHECK.due(35, "replication(0)", x.replication(0), 4);
        CHECK.due(36, "pairs(1, 2)", x.pairs(1, 2), 2);
        CHECK.due(37, "intersections(2)", x.intersections(2), 5);
        CHECK.due(37, "intersections(1)", x.intersections(1), 20);
        CHECK.due(37, "intersections(0)", x.intersections(0), 20);
    }

    private static void twoFactors() {
        DifferenceFamilies x = new DifferenceFamilies();
        x.setGroup(2, 3);
        Check.putAll(x, 0, 0, 1);
        long[] due = {Check.set(0, 1), Check.set(1, 2), Check.set(2, 0), Check.set(3, 4), Check.set(4, 5),
            Check.set(5, 3)};
        for (int number = 0; number < 6; number++) {
            CHECK.due(34, "designBlock(" + number + ")", x.designBlock(number), due[number]);
        }
        CHECK.due(39, "disjointBlocks()", x.disjointBlocks(), 2);
        CHECK.due(38, "rank(2)", x.rank(2), 4);
        CHECK.due(38, "rank(3)", x.rank(3), 6);
    }

    private static void ranks() {
        DifferenceFamilies x = new DifferenceFamilies();
        Check.putAll(x, 0, 0, 1, 3);
        CHECK.due(38, "rank(2)", x.rank(2), 4);
        CHECK.due(38, "rank(3)", x.rank(3), 6);
        CHECK.due(38, "rank(5)", x.rank(5), 7);
        CHECK.due(38, "rank(7)", x.rank(7), 7);
        int[] wrong = {-2, 0, 1, 4, 6, 8, 9, 11, Integer.MIN_VALUE, Integer.MAX_VALUE};
        for (int p : wrong) {
            CHECK.due(38, "rank(" + p + ")", x.rank(p), BAD_VALUE);
        }
        // The rank over the field of 5: the circulant of 0, 1, 2, 3, 4 in Z 6 has the sum 5 in each row.
        x.setGroup(6, 1);
        Check.putAll(x, 0, 0, 1, 2, 3, 4);
        CHECK.due(38, "rank(2)", x.rank(2), 6);
        CHECK.due(38, "rank(3)", x.rank(3), 6);
        CHECK.due(38, "rank(5)", x.rank(5), 5);
        CHECK.due(38, "rank(7)", x.rank(7), 6);
        x.setGroup(8, 1);
        Check.putAll(x, 0, 0, 1, 2, 3, 4, 5, 6);
        CHECK.due(38, "rank(7)", x.rank(7), 7);
        CHECK.due(38, "rank(5)", x.rank(5), 8);
    }

    private static void disjointBlocks() {
        DifferenceFamilies x = new DifferenceFamilies();
        x.setGroup(9, 1);
        // 0 1 3, then 4 5 7 is the first one without any of these, and then none fits: 2 6 8 is no translate.
        Check.putAll(x, 0, 0, 1, 3);
        CHECK.due(39, "disjointBlocks()", x.disjointBlocks(), 2);
        // Single elements fill what is left.
        Check.putAll(x, 1, 5);
        CHECK.due(39, "disjointBlocks()", x.disjointBlocks(), 5);
        x.setGroup(9, 1);
        Check.putAll(x, 1, 0, 1, 3);
        Check.putAll(x, 0, 5);
        CHECK.due(39, "disjointBlocks()", x.disjointBlocks(), 9);
    }

    private static void greatestDesign() {
        DifferenceFamilies x = new DifferenceFamilies();
        x.setGroup(40, 1);
        for (int block = 0; block < 6; block++) {
            Check.putAll(x, block, 0, 1, 3 + block);
        }
        CHECK.due(33, "designBlocks()", x.designBlocks(), 240);
        CHECK.due(34, "designBlock(239)", x.designBlock(239), Check.set(39, 0, 7));
        CHECK.due(34, "designBlock(240)", x.designBlock(240), BAD_VALUE);
        CHECK.due(35, "replication(17)", x.replication(17), 18);
        CHECK.due(36, "pairs(39, 0)", x.pairs(39, 0), 6);
        long pairs = 0;
        for (int common = 0; common <= 40; common++) {
            pairs += x.intersections(common);
        }
        CHECK.due(37, "intersections() of all numbers", pairs, 240 * 239 / 2);
    }
}
