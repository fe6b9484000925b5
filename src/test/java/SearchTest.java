/** Promises 40 to 43: the search. */
public final class SearchTest {
    private static final Check CHECK = new Check("SearchTest");
    private static final int BAD_VALUE = DifferenceFamilies.BAD_VALUE;
    private static final int NOT_POSSIBLE = DifferenceFamilies.NOT_POSSIBLE;

    public static void main(String[] args) {
        smallSearch();
        lastStepCounts();
        repetitions();
        multipliers();
        holes();
        wrongArguments();
        ordersAbove25();
        tooLargeBlocks();
        solutionsAreTaken();
        latestSearchCounts();
        greatestSearch();
        againstReference();
        CHECK.end();
    }

    private static void smallSearch() {
        DifferenceFamilies x = new DifferenceFamilies();
        // The normal forms of three elements are 7, 11, 13, 19 and 21; 11 and 13 are the solutions.
        CHECK.due(40, "search(3, 1, 1, 1, 5000)", x.search(3, 1, 1, 1, 5000), 2);
        CHECK.due(41, "searchSteps()", x.searchSteps(), 5);
        CHECK.due(42, "candidates()", x.candidates(), 5);
        CHECK.due(40, "block(0)", x.block(0), 0);
        CHECK.due(18, "undo()", x.undo(), NOT_POSSIBLE);
        CHECK.due(43, "takeSolution()", x.takeSolution(), 1);
        CHECK.due(43, "block(0)", x.block(0), 11);
    }

    private static void lastStepCounts() {
        DifferenceFamilies x = new DifferenceFamilies();
        int[] solutions = {0, 0, 1, 2, 2, 2, 2};
        for (int steps = 1; steps < 7; steps++) {
            String call = "search(3, 1, 1, 1, " + steps + ")";
            CHECK.due(40, call, x.search(3, 1, 1, 1, steps), solutions[steps]);
            CHECK.due(41, call + "; searchSteps()", x.searchSteps(), Math.min(steps, 5));
            CHECK.due(42, call + "; candidates()", x.candidates(), 5);
            CHECK.due(43, call + "; takeSolution()", x.takeSolution(), steps == 1 ? NOT_POSSIBLE : 1);
        }
    }

    private static void repetitions() {
        DifferenceFamilies x = new DifferenceFamilies();
        // 11 and 13 may be in a list twice: 11 11, 11 13 and 13 13, and three blocks of other kinds do not fit.
        CHECK.due(40, "search(3, 2, 2, 1, 5000)", x.search(3, 2, 2, 1, 5000), 3);
        // Each of 7, 11, 13, 19 and 21 alone is a partial solution: 5 + (5 + 4 + 3 + 2 + 1) steps.
        CHECK.due(41, "searchSteps()", x.searchSteps(), 20);
        CHECK.due(43, "takeSolution()", x.takeSolution(), 2);
        CHECK.due(43, "block(0)", x.block(0), 11);
        CHECK.due(43, "block(1)", x.block(1), 11);
        // The search goes on from a list before it makes the next try: 7, then 7 7, 7 11, ..
        CHECK.due(40, "search(3, 2, 2, 1, 6)", x.search(3, 2, 2, 1, 6), 0);
        CHECK.due(40, "search(3, 2, 2, 1, 7)", x.search(3, 2, 2, 1, 7), 0);
        CHECK.due(40, "search(3, 2, 2, 1, 8)", x.search(3, 2, 2, 1, 8), 1);
        CHECK.due(40, "search(3, 2, 2, 1, 9)", x.search(3, 2, 2, 1, 9), 2);
    }

    private static void multipliers() {
        DifferenceFamilies x = new DifferenceFamilies();
        // 2 keeps the normal forms 11 and 13 alone.
        CHECK.due(40, "search(3, 1, 1, 2, 5000)", x.search(3, 1, 1, 2, 5000), 2);
        CHECK.due(42, "candidates()", x.candidates(), 2);
        // 6 keeps 7, 19 and 21 and exchanges 11 and 13.
        CHECK.due(40, "search(3, 1, 1, 6, 5000)", x.search(3, 1, 1, 6, 5000), 0);
        CHECK.due(42, "candidates()", x.candidates(), 3);
        CHECK.due(41, "searchSteps()", x.searchSteps(), 3);
        CHECK.due(40, "search(3, 1, 1, 3, 5000)", x.search(3, 1, 1, 3, 5000), 0);
        CHECK.due(42, "candidates()", x.candidates(), 0);
        CHECK.due(41, "searchSteps()", x.searchSteps(), 0);
        CHECK.due(43, "takeSolution()", x.takeSolution(), NOT_POSSIBLE);
    }

    private static void holes() {
        DifferenceFamilies x = new DifferenceFamilies();
        x.setGroup(8, 1);
        CHECK.due(40, "search(3, 1, 1, 1, 5000)", x.search(3, 1, 1, 1, 5000), 0);
        x.setHole(4, 0);
        CHECK.due(40, "search(3, 1, 1, 1, 5000)", x.search(3, 1, 1, 1, 5000), 2);
        x.setHole(1, 0);
        // What has been found is not lost by a new hole.
        CHECK.due(43, "takeSolution()", x.takeSolution(), 1);
        CHECK.due(43, "block(0)", x.block(0), Check.set(0, 1, 3));
        CHECK.due(40, "search(3, 9, 4, 1, 5000)", x.search(3, 9, 4, 1, 5000), 0);
        CHECK.due(41, "searchSteps()", x.searchSteps(), x.candidates());
        // The pairs whose difference is 1 or 3, without the hole of the even elements.
        x.setHole(2, 0);
        CHECK.due(40, "search(2, 1, 2, 1, 5000)", x.search(2, 1, 2, 1, 5000), 1);
        CHECK.due(42, "candidates()", x.candidates(), 4);
        CHECK.due(41, "searchSteps()", x.searchSteps(), 4 + 4 + 2);
    }

    private static void wrongArguments() {
        DifferenceFamilies x = new DifferenceFamilies();
        x.setGroup(9, 1);
        x.search(4, 3, 2, 1, 20);
        int candidates = x.candidates();
        int[][] wrong = {{1, 1, 1, 1, 1}, {6, 1, 1, 1, 1}, {3, 0, 1, 1, 1}, {3, 10, 1, 1, 1}, {3, 1, 0, 1, 1},
            {3, 1, 5, 1, 1}, {3, 1, 1, 0, 1}, {3, 1, 1, 9, 1}, {3, 1, 1, 10, 1}, {3, 1, 1, 3, 1}, {3, 1, 1, 6, 1},
            {3, 1, 1, -1, 1}, {3, 1, 1, 1, 0}, {3, 1, 1, 1, 5001}, {3, 1, 1, 1, -1}, {-3, 1, 1, 1, 1}};
        for (int[] a : wrong) {
            CHECK.due(40, "search(" + java.util.Arrays.toString(a) + ")", x.search(a[0], a[1], a[2], a[3], a[4]),
                    BAD_VALUE);
        }
        CHECK.due(42, "candidates()", x.candidates(), candidates);
        CHECK.due(41, "searchSteps()", x.searchSteps(), 20);
        CHECK.due(40, "search(5, 9, 4, 8, 1)", x.search(5, 9, 4, 8, 1), 0);
        CHECK.due(41, "searchSteps()", x.searchSteps(), 1);
        x.setGroup(2, 1);
        CHECK.due(40, "search(2, 2, 1, 1, 1)", x.search(2, 2, 1, 1, 1), 1);
        CHECK.due(40, "search(2, 2, 1, 2, 1)", x.search(2, 2, 1, 2, 1), BAD_VALUE);
    }

    private static void ordersAbove25() {
        DifferenceFamilies x = new DifferenceFamilies();
        x.setGroup(25, 1);
        CHECK.due(40, "search(2, 1, 1, 1, 1)", x.search(2, 1, 1, 1, 1), 0);
        x.setGroup(13, 2);
        CHECK.due(40, "search(2, 1, 1, 1, 1)", x.search(2, 1, 1, 1, 1), NOT_POSSIBLE);
        CHECK.due(40, "search(2, 1, 1, 25, 1)", x.search(2, 1, 1, 25, 1), NOT_POSSIBLE);
        CHECK.due(40, "search(2, 1, 1, 26, 1)", x.search(2, 1, 1, 26, 1), BAD_VALUE);
        CHECK.due(40, "search(2, 1, 1, 13, 1)", x.search(2, 1, 1, 13, 1), BAD_VALUE);
        CHECK.due(40, "search(2, 1, 1, 1, 5001)", x.search(2, 1, 1, 1, 5001), BAD_VALUE);
        CHECK.due(40, "search(6, 1, 1, 1, 1)", x.search(6, 1, 1, 1, 1), BAD_VALUE);
        CHECK.due(41, "searchSteps()", x.searchSteps(), 0);
    }

    private static void tooLargeBlocks() {
        DifferenceFamilies x = new DifferenceFamilies();
        x.setGroup(2, 2);
        CHECK.due(40, "search(5, 1, 1, 1, 9)", x.search(5, 1, 1, 1, 9), 0);
        CHECK.due(42, "candidates()", x.candidates(), 0);
        CHECK.due(40, "search(4, 4, 1, 3, 9)", x.search(4, 4, 1, 3, 9), 1);
        CHECK.due(42, "candidates()", x.candidates(), 1);
        CHECK.due(40, "search(2, 2, 3, 1, 99)", x.search(2, 2, 3, 1, 99), 1);
        // The candidates are 3, 5 and 6, which is a normal form without the element 0.
        CHECK.due(43, "takeSolution()", x.takeSolution(), 3);
        CHECK.due(43, "block(2)", x.block(2), 6);
    }

    private static void solutionsAreTaken() {
        DifferenceFamilies x = new DifferenceFamilies();
        CHECK.due(43, "takeSolution()", x.takeSolution(), NOT_POSSIBLE);
        x.setGroup(13, 1);
        for (int block = 0; block < 6; block++) {
            x.put(block, block);
        }
        x.search(3, 1, 2, 1, 5000);
        CHECK.due(43, "takeSolution()", x.takeSolution(), 2);
        long[] due = {19, 133, 0, 0, 0, 0};
        for (int block = 0; block < 6; block++) {
            CHECK.due(43, "block(" + block + ")", x.block(block), due[block]);
        }
        CHECK.due(18, "undo()", x.undo(), 4);
        CHECK.due(18, "block(5)", x.block(5), 32);
        CHECK.due(43, "takeSolution()", x.takeSolution(), 2);
        x.restore(0);
        CHECK.due(43, "takeSolution()", x.takeSolution(), 2);
    }

    private static void latestSearchCounts() {
        DifferenceFamilies x = new DifferenceFamilies();
        x.search(3, 1, 1, 1, 5000);
        x.search(3, 1, 1, 1, 1);
        CHECK.due(43, "takeSolution()", x.takeSolution(), NOT_POSSIBLE);
        x.search(3, 4, 4, 2, 5000);
        CHECK.due(43, "takeSolution()", x.takeSolution(), 4);
        x.search(3, 1, 1, 2, 5000);
        CHECK.due(43, "takeSolution()", x.takeSolution(), 1);
        CHECK.due(43, "block(1)", x.block(1), 0);
    }

    private static void greatestSearch() {
        DifferenceFamilies x = new DifferenceFamilies();
        x.setGroup(5, 5);
        CHECK.due(40, "search(5, 9, 4, 1, 5000)", x.search(5, 9, 4, 1, 5000), 0);
        CHECK.due(42, "candidates()", x.candidates(), 2130);
        CHECK.due(41, "searchSteps()", x.searchSteps(), 5000);
        x.setGroup(25, 1);
        x.search(5, 9, 4, 1, 5000);
        CHECK.due(42, "candidates()", x.candidates(), 2126);
    }

    private static void againstReference() {
        for (int n = 2; n <= 16; n++) {
            for (int m = 1; n * m <= 16; m++) {
                for (int size = 2; size <= 5; size++) {
                    compare(n, m, size, 1 + (n + size) % 3, 1 + (n + m + size) % 4);
                }
            }
        }
    }

    private static void compare(int n, int m, int size, int index, int blocks) {
        DifferenceFamilies x = new DifferenceFamilies();
        Reference y = new Reference();
        x.setGroup(n, m);
        y.setGroup(n, m);
        for (int t = 1; t < n * m; t++) {
            String call = n + " * " + m + ": search(" + size + ", " + index + ", " + blocks + ", " + t + ", 1500)";
            CHECK.due(40, call, x.search(size, index, blocks, t, 1500), y.search(size, index, blocks, t, 1500));
            CHECK.due(41, call + "; searchSteps()", x.searchSteps(), y.searchSteps());
            CHECK.due(42, call + "; candidates()", x.candidates(), y.candidates());
            CHECK.due(43, call + "; takeSolution()", x.takeSolution(), y.takeSolution());
            for (int block = 0; block < 6; block++) {
                CHECK.due(43, call + "; block(" + block + ")", x.block(block), y.block(block));
            }
        }
    }
}
