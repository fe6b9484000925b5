/** The four examples of the document. */
public final class ExamplesTest {
    private static final Check CHECK = new Check("ExamplesTest");

    public static void main(String[] args) {
        oneBlock();
        twoFactors();
        twoBlocks();
        faultyText();
        CHECK.end();
    }

    private static void oneBlock() {
        DifferenceFamilies x = new DifferenceFamilies();
        CHECK.due(11, "put(0, 0)", x.put(0, 0), 1);
        CHECK.due(11, "put(0, 1)", x.put(0, 1), 2);
        CHECK.due(11, "put(0, 3)", x.put(0, 3), 3);
        CHECK.due(26, "index()", x.index(), 1);
        CHECK.due(29, "multipliers()", x.multipliers(), 22);
        CHECK.due(33, "designBlocks()", x.designBlocks(), 7);
        CHECK.due(36, "pairs(2, 5)", x.pairs(2, 5), 1);
        CHECK.due(31, "canonical(0)", x.canonical(0), 11);
    }

    private static void twoFactors() {
        DifferenceFamilies x = new DifferenceFamilies();
        CHECK.due(2, "setGroup(3, 3)", x.setGroup(3, 3), 7);
        CHECK.due(7, "automorphisms()", x.automorphisms(), 48);
        CHECK.due(4, "sum(4, 8)", x.sum(4, 8), 0);
        CHECK.due(9, "setHole(1, 0)", x.setHole(1, 0), 3);
        CHECK.due(10, "hole()", x.hole(), 7);
        CHECK.due(8, "image(0, 1)", x.image(0, 1), 1);
    }

    private static void twoBlocks() {
        DifferenceFamilies x = new DifferenceFamilies();
        CHECK.due(2, "setGroup(13, 1)", x.setGroup(13, 1), 7);
        CHECK.due(40, "search(3, 1, 2, 1, 5000)", x.search(3, 1, 2, 1, 5000), 4);
        CHECK.due(43, "takeSolution()", x.takeSolution(), 2);
        CHECK.due(26, "index()", x.index(), 1);
        CHECK.due(21, "stabilizer(2)", x.stabilizer(2), -4);
    }

    private static void faultyText() {
        DifferenceFamilies x = new DifferenceFamilies();
        CHECK.due(44, "append(48)", x.append(48), 1);
        CHECK.due(44, "append(44)", x.append(44), 2);
        CHECK.due(44, "append(49)", x.append(49), 3);
        CHECK.due(44, "append(59)", x.append(59), 4);
        CHECK.due(44, "append(56)", x.append(56), 5);
        CHECK.due(44, "append(59)", x.append(59), 6);
        CHECK.due(46, "faultPosition()", x.faultPosition(), 4);
        CHECK.due(47, "read()", x.read(), -3);
        CHECK.due(2, "setGroup(41, 1)", x.setGroup(41, 1), -1);
    }
}
