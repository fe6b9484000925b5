import java.util.ArrayList;
import java.util.List;

/** 'Search', and promises 40 to 43. */
final class SearchBoundaries {
    private static final int BAD_VALUE = DifferenceFamilies.BAD_VALUE;
    private static final int NOT_POSSIBLE = DifferenceFamilies.NOT_POSSIBLE;

    private final Boundaries b;

    SearchBoundaries(Boundaries b) {
        this.b = b;
    }

    void run() {
        sentencesOfTheSearch();
        arguments();
        results();
        steps();
        takenSolutions();
    }

    private void searched(DifferenceFamilies x, String name, int solutions, int steps, int candidates, int answer) {
        b.due(name, answer, solutions);
        b.due(name + "; searchSteps()", x.searchSteps(), steps);
        b.due(name + "; candidates()", x.candidates(), candidates);
    }

    private void sentencesOfTheSearch() {
        b.test(40, "A search for families has a block size k, an index L, a number of blocks c and a multiplier t",
                this::fourNumbers);
        b.test(42, "Its candidates are all sets of k elements that are their own normal forms", this::allCandidates);
        b.test(43, "whose images by the map from each x to t * x have the same normal form as the set, in ascending order",
                this::candidatesInOrder);
        b.test(40, "A partial solution is a list of at most c candidates, in ascending order (with repetitions)",
                this::partialSolutions);
        b.test(40, "no element of the hole other than 0 has a count above 0", this::holesInPartialSolutions);
        b.test(40, "A partial solution of c candidates is a solution if it is a difference family with index L",
                this::solutions);
        b.test(40, "it is a difference family with index L", this::searchesByTrying);
        b.test(40, "it is a difference family with index L", this::orderTwo);
        b.test(41, "The search begins with the empty list", this::emptyList);
        b.test(41, "it tries to append each candidate that is not before its last one, in ascending order",
                this::triesFromTheLastOne);
        b.test(41, "each such try is a step", this::triesAreSteps);
        b.test(40, "the search goes on from it in the same way before the next try", this::depthFirst);
        b.test(40, "The search ends when all tries have been made, or after a given number of steps", this::endOfSearch);
        b.test(40, "(a solution that is found by the last step counts)", this::lastStep);
    }

    private void fourNumbers() {
        DifferenceFamilies x = States.fresh();
        searched(x, "search(3, 1, 1, 1, 99)", 2, 5, 5, x.search(3, 1, 1, 1, 99));
        searched(x, "search(4, 2, 1, 1, 99)", 2, 5, 5, x.search(4, 2, 1, 1, 99));
        searched(x, "search(3, 2, 1, 1, 99)", 0, 5, 5, x.search(3, 2, 1, 1, 99));
        searched(x, "search(3, 2, 2, 1, 99)", 3, 20, 5, x.search(3, 2, 2, 1, 99));
        searched(x, "search(3, 1, 1, 2, 99)", 2, 2, 2, x.search(3, 1, 1, 2, 99));
    }

    private static long translate(long set, int g, int n, int m) {
        long translate = 0;
        for (int e = 0; e < n * m; e++) {
            if ((set >> e & 1) == 1) {
                translate |= 1L << (m * ((e / m + g / m) % n) + (e % m + g % m) % m);
            }
        }
        return translate;
    }

    private static long normal(long set, int n, int m) {
        long least = set;
        for (int g = 1; g < n * m; g++) {
            least = Math.min(least, translate(set, g, n, m));
        }
        return least;
    }

    private static boolean isOwnNormalForm(long set, int n, int m) {
        for (int g = 1; g < n * m; g++) {
            if (translate(set, g, n, m) < set) {
                return false;
            }
        }
        return true;
    }

    private static long multiple(long set, int t, int n, int m) {
        long multiple = 0;
        for (int e = 0; e < n * m; e++) {
            if ((set >> e & 1) == 1) {
                multiple |= 1L << (m * (t * (e / m) % n) + t * (e % m) % m);
            }
        }
        return multiple;
    }

    private static int gcd(int one, int two) {
        return two == 0 ? one : gcd(two, one % two);
    }

    private static List<Long> normalForms(int n, int m, int size) {
        List<Long> forms = new ArrayList<>();
        addSets(0, 0, size, n, m, forms);
        return forms;
    }

    private static void addSets(long set, int from, int missing, int n, int m, List<Long> forms) {
        if (missing == 0) {
            if (isOwnNormalForm(set, n, m)) {
                forms.add(set);
            }
            return;
        }
        for (int e = from; e <= n * m - missing; e++) {
            addSets(set | 1L << e, e + 1, missing - 1, n, m, forms);
        }
    }

    /** In all groups up to the order 25, for all sizes and all multipliers, against all sets of that size. */
    private void allCandidates() {
        for (int n = 2; n <= 25; n++) {
            for (int m = 1; n * m <= 25; m++) {
                for (int size = 2; size <= 5; size++) {
                    List<Long> forms = normalForms(n, m, size);
                    for (int t = 1; t < n * m; t++) {
                        if (gcd(t, n * m) == 1) {
                            candidates(n, m, size, t, forms);
                        }
                    }
                }
            }
        }
    }

    private void candidates(int n, int m, int size, int t, List<Long> forms) {
        int due = 0;
        for (long set : forms) {
            due += normal(multiple(set, t, n, m), n, m) == set ? 1 : 0;
        }
        DifferenceFamilies x = States.group(n, m);
        String call = n + " * " + m + ": search(" + size + ", 1, 1, " + t + ", 5000)";
        b.holds(call + " is possible", x.search(size, 1, 1, t, 5000) >= 0);
        b.due(call + "; candidates()", x.candidates(), due);
        // One block: each candidate is one try.
        b.due(call + "; searchSteps()", x.searchSteps(), due);
    }

    private void candidatesInOrder() {
        // The normal forms are 7, 11, 13, 19 and 21; by one step more each, 11 is found second and 13 third.
        DifferenceFamilies x = States.fresh();
        b.due("search(3, 1, 1, 1, 1)", x.search(3, 1, 1, 1, 1), 0);
        b.due("search(3, 1, 1, 1, 2)", x.search(3, 1, 1, 1, 2), 1);
        b.due("search(3, 1, 1, 1, 3)", x.search(3, 1, 1, 1, 3), 2);
        x.takeSolution();
        b.blocks("takeSolution()", x, 11);
        // 6 keeps 7, 19 and 21; 11 and 13 are exchanged by it. 3 keeps none.
        b.due("search(3, 1, 1, 6, 99)", x.search(3, 1, 1, 6, 99), 0);
        b.due("candidates()", x.candidates(), 3);
        b.due("search(3, 1, 1, 3, 99)", x.search(3, 1, 1, 3, 99), 0);
        b.due("candidates()", x.candidates(), 0);
        // 6, which has no element 0, is a normal form behind 3 and 5.
        DifferenceFamilies y = States.group(2, 2);
        b.due("2 * 2: search(2, 2, 3, 1, 99)", y.search(2, 2, 3, 1, 99), 1);
        y.takeSolution();
        b.blocks("takeSolution()", y, 3, 5, 6);
    }

    private void partialSolutions() {
        // In 3, the pairs have the one normal form 3; each repetition adds 1 to both counts.
        DifferenceFamilies x = States.group(3, 1);
        searched(x, "search(2, 4, 4, 1, 99)", 1, 4, 1, x.search(2, 4, 4, 1, 99));
        x.takeSolution();
        b.blocks("takeSolution()", x, 3, 3, 3, 3);
        // The third repetition has the count 3, which is above 2, and there is no other try.
        searched(x, "search(2, 2, 4, 1, 99)", 0, 3, 1, x.search(2, 2, 4, 1, 99));
        searched(x, "search(2, 1, 1, 1, 99)", 1, 1, 1, x.search(2, 1, 1, 1, 99));
    }

    private void holesInPartialSolutions() {
        // The pairs are 3, 5, 9 and 17; with the hole of 0 and 4, 17 is no partial solution.
        DifferenceFamilies x = States.group(8, 1);
        x.setHole(4, 0);
        searched(x, "8, hole 0 4: search(2, 2, 1, 1, 99)", 0, 4, 4, x.search(2, 2, 1, 1, 99));
        searched(x, "8, hole 0 4: search(2, 2, 2, 1, 99)", 0, 4 + 4 + 3 + 2, 4, x.search(2, 2, 2, 1, 99));
        searched(x, "8, hole 0 4: search(2, 1, 3, 1, 99)", 1, 4 + 4 + 3 + 2 + 3 + 2 + 2, 4,
                x.search(2, 1, 3, 1, 99));
        // Where the hole is the whole group, no candidate is a partial solution.
        x.setHole(1, 0);
        searched(x, "8, whole hole: search(2, 9, 4, 1, 99)", 0, 4, 4, x.search(2, 9, 4, 1, 99));
    }

    private void solutions() {
        // Two of three blocks fit, but have the count 2 and not 3.
        DifferenceFamilies x = States.fresh();
        b.due("search(3, 3, 2, 1, 99)", x.search(3, 3, 2, 1, 99), 0);
        b.due("takeSolution()", x.takeSolution(), NOT_POSSIBLE);
        // One block is a solution for c = 1 and none for c = 2.
        b.due("search(3, 1, 1, 1, 99)", x.search(3, 1, 1, 1, 99), 2);
        b.due("search(3, 1, 2, 1, 99)", x.search(3, 1, 2, 1, 99), 0);
        // With a hole, the elements of the hole need the count 0.
        DifferenceFamilies y = States.group(8, 1);
        b.due("8: search(3, 1, 1, 1, 99)", y.search(3, 1, 1, 1, 99), 0);
        y.setHole(4, 0);
        b.due("8, hole 0 4: search(3, 1, 1, 1, 99)", y.search(3, 1, 1, 1, 99), 2);
    }

    private void orderTwo() {
        // The one candidate has the count 2.
        for (int index = 1; index <= 9; index++) {
            for (int count = 1; count <= 4; count++) {
                b.due("2: search(2, " + index + ", " + count + ", 1, 9)",
                        States.group(2, 1).search(2, index, count, 1, 9), index == 2 * count ? 1 : 0);
            }
        }
    }

    /** In small groups, with and without a hole, against a search written down from the document's words. */
    private void searchesByTrying() {
        int[][] groups = {{2, 2}, {5, 1}, {2, 3}, {3, 2}, {7, 1}, {2, 4}, {4, 2}, {3, 3}};
        for (int[] group : groups) {
            for (int hole : new int[] {0, 1, group[1], group[0] * group[1] / 2}) {
                for (int size = 2; size <= 4; size++) {
                    PlainSearch plain = new PlainSearch(group[0], group[1], hole, normalForms(group[0], group[1], size));
                    for (int index = 1; index <= 4; index++) {
                        searchByTrying(plain, size, index);
                    }
                }
            }
        }
    }

    private void searchByTrying(PlainSearch plain, int size, int index) {
        for (int count = 1; count <= 4; count++) {
            DifferenceFamilies x = States.group(plain.n, plain.m);
            x.setHole(plain.hole, 0);
            plain.start(x.hole(), index, count, 700);
            String name = plain.n + " * " + plain.m + ", hole of " + plain.hole + ": search(" + size + ", " + index + ", "
                    + count + ", 1, 700)";
            searched(x, name, plain.solutions, plain.steps, plain.forms.size(), x.search(size, index, count, 1, 700));
            if (plain.solutions > 0) {
                x.takeSolution();
                b.blocks(name + "; takeSolution()", x, plain.first);
            }
        }
    }

    /** The search, with counts made from all pairs of elements of all blocks of a list. */
    private static final class PlainSearch {
        private final int n;
        private final int m;
        private final int hole;
        private final List<Long> forms;
        private long holeSet;
        private int index;
        private int count;
        private int most;
        private int steps;
        private int solutions;
        private long[] first;

        PlainSearch(int n, int m, int hole, List<Long> forms) {
            this.n = n;
            this.m = m;
            this.hole = hole;
            this.forms = forms;
            java.util.Collections.sort(forms);
        }

        void start(long newHoleSet, int newIndex, int newCount, int newMost) {
            holeSet = newHoleSet;
            index = newIndex;
            count = newCount;
            most = newMost;
            steps = 0;
            solutions = 0;
            goOn(new ArrayList<>(), 0);
        }

        private void goOn(List<Long> list, int from) {
            for (int next = from; next < forms.size() && list.size() < count && steps < most; next++) {
                steps++;
                list.add(forms.get(next));
                int[] counts = counts(list);
                if (isPartial(counts)) {
                    if (list.size() == count && isFamily(counts)) {
                        first = solutions == 0 ? list.stream().mapToLong(set -> set).toArray() : first;
                        solutions++;
                    }
                    goOn(list, next);
                }
                list.remove(list.size() - 1);
            }
        }

        private int[] counts(List<Long> list) {
            int[] counts = new int[n * m];
            for (long set : list) {
                for (int e = 0; e < n * m; e++) {
                    for (int d = 1; d < n * m; d++) {
                        long sum = translate(1L << e, d, n, m);
                        counts[d] += (set >> e & 1) == 1 && (set & sum) != 0 ? 1 : 0;
                    }
                }
            }
            return counts;
        }

        private boolean isPartial(int[] counts) {
            for (int d = 1; d < n * m; d++) {
                if (counts[d] > ((holeSet >> d & 1) == 1 ? 0 : index)) {
                    return false;
                }
            }
            return true;
        }

        private boolean isFamily(int[] counts) {
            for (int d = 1; d < n * m; d++) {
                if (counts[d] != ((holeSet >> d & 1) == 1 ? 0 : index)) {
                    return false;
                }
            }
            return true;
        }
    }

    private void emptyList() {
        // The base blocks do not count: they are no part of the list.
        DifferenceFamilies x = States.family(7, 1, 0, 1, 3);
        searched(x, "search(3, 1, 1, 1, 99)", 2, 5, 5, x.search(3, 1, 1, 1, 99));
        searched(x, "search(3, 1, 1, 1, 99)", 2, 5, 5, x.search(3, 1, 1, 1, 99));
        // Without candidates, there is no try.
        searched(x, "search(3, 1, 1, 3, 99)", 0, 0, 0, x.search(3, 1, 1, 3, 99));
        DifferenceFamilies y = States.group(2, 1);
        searched(y, "2: search(3, 9, 4, 1, 99)", 0, 0, 0, y.search(3, 9, 4, 1, 99));
    }

    private void triesFromTheLastOne() {
        // Each candidate alone is a partial solution, followed by itself and those behind it: 5 + 5 + 4 + 3 + 2 + 1.
        DifferenceFamilies x = States.fresh();
        searched(x, "search(3, 2, 2, 1, 99)", 3, 20, 5, x.search(3, 2, 2, 1, 99));
        x.takeSolution();
        b.blocks("takeSolution()", x, 11, 11);
        // 1, 2, 3 and 4 repetitions of 5 kinds are 5, 15, 35 and 70 lists.
        searched(x, "search(3, 9, 4, 1, 5000)", 0, 5 + 15 + 35 + 70, 5, x.search(3, 9, 4, 1, 5000));
    }

    private void triesAreSteps() {
        // A try that does not fit is a step too: with L = 1, only 11 and 13 fit, and nothing fits behind them.
        DifferenceFamilies x = States.fresh();
        searched(x, "search(3, 1, 2, 1, 99)", 0, 5 + 4 + 3, 5, x.search(3, 1, 2, 1, 99));
        searched(x, "search(3, 1, 4, 1, 99)", 0, 5 + 4 + 3, 5, x.search(3, 1, 4, 1, 99));
    }

    private void depthFirst() {
        // 7; 7 7, 7 11, 7 13, 7 19, 7 21; 11; 11 11, which is the eighth step.
        DifferenceFamilies x = States.fresh();
        b.due("search(3, 2, 2, 1, 7)", x.search(3, 2, 2, 1, 7), 0);
        b.due("search(3, 2, 2, 1, 8)", x.search(3, 2, 2, 1, 8), 1);
        b.due("search(3, 2, 2, 1, 9)", x.search(3, 2, 2, 1, 9), 2);
        b.due("search(3, 2, 2, 1, 13)", x.search(3, 2, 2, 1, 13), 3);
        b.due("search(3, 2, 2, 1, 12)", x.search(3, 2, 2, 1, 12), 2);
    }

    private void endOfSearch() {
        DifferenceFamilies x = States.fresh();
        for (int most = 1; most <= 22; most++) {
            x.search(3, 2, 2, 1, most);
            b.due("search(3, 2, 2, 1, " + most + "); searchSteps()", x.searchSteps(), Math.min(most, 20));
        }
    }

    private void lastStep() {
        DifferenceFamilies x = States.fresh();
        searched(x, "search(3, 1, 1, 1, 2)", 1, 2, 5, x.search(3, 1, 1, 1, 2));
        b.due("takeSolution()", x.takeSolution(), 1);
        DifferenceFamilies y = States.group(3, 1);
        searched(y, "3: search(2, 4, 4, 1, 3)", 0, 3, 1, y.search(2, 4, 4, 1, 3));
        searched(y, "3: search(2, 4, 4, 1, 4)", 1, 4, 1, y.search(2, 4, 4, 1, 4));
        searched(y, "3: search(2, 1, 1, 1, 1)", 1, 1, 1, y.search(2, 1, 1, 1, 1));
    }

    private void arguments() {
        b.test(40, "size: the block size k, 2 to 5",
                () -> b.range(() -> States.group(11, 1), "search(?, 2, 1, 1, 5000)", 2, 0, 5, 2,
                        (x, size) -> x.search(size, 2, 1, 1, 5000)));
        b.test(40, "index: the index L, 1 to 9",
                () -> b.range(() -> States.group(3, 1), "search(3, ?, 3, 1, 10)", 1, 0, 9, 1,
                        (x, index) -> x.search(3, index, 3, 1, 10)));
        b.test(40, "blocks: the number of blocks c, 1 to 4",
                () -> b.range(() -> States.group(3, 1), "search(2, 4, ?, 1, 10)", 1, 0, 4, 1,
                        (x, blocks) -> x.search(2, 4, blocks, 1, 10)));
        b.test(40, "multiplier: the multiplier t, 1 to v - 1", this::rangesOfMultipliers);
        b.test(40, "steps: the greatest number of steps, 1 to 5000",
                () -> b.range(() -> States.group(13, 1), "search(3, 1, 2, 1, ?)", 1, 0, 5000, 4,
                        (x, steps) -> x.search(3, 1, 2, 1, steps)));
        b.test(40, "BAD_VALUE, also if multiplier and v have a common divisor above 1", this::commonDivisors);
        b.test(40, "NOT_POSSIBLE if the order of the group is above 25", this::ordersAbove25);
    }

    private void rangesOfMultipliers() {
        b.range(States::fresh, "search(3, 1, 1, ?, 99)", 1, 2, 6, 0, (x, t) -> x.search(3, 1, 1, t, 99));
        b.range(() -> States.group(2, 1), "2: search(2, 2, 1, ?, 99)", 1, 1, 1, 1,
                (x, t) -> x.search(2, 2, 1, t, 99));
        b.range(States::worked, "search(3, 1, 1, ?, 99)", 1, 2, 7, 0, (x, t) -> x.search(3, 1, 1, t, 99));
        b.range(() -> States.group(5, 5), "5 * 5: search(2, 1, 1, ?, 1)", 1, 0, 24, 0,
                (x, t) -> x.search(2, 1, 1, t, 1));
    }

    private void commonDivisors() {
        for (int t : new int[] {2, 4, 6}) {
            b.refused(States::worked, "search(3, 1, 1, " + t + ", 99)", BAD_VALUE, x -> x.search(3, 1, 1, t, 99));
        }
        b.refused(States::workedPairs, "3 * 3: search(2, 1, 4, 3, 99)", BAD_VALUE, x -> x.search(2, 1, 4, 3, 99));
        b.refused(States::workedPairs, "3 * 3: search(2, 1, 4, 6, 99)", BAD_VALUE, x -> x.search(2, 1, 4, 6, 99));
        b.refused(() -> States.group(5, 5), "5 * 5: search(2, 1, 1, 20, 99)", BAD_VALUE,
                x -> x.search(2, 1, 1, 20, 99));
        // 9 has no common divisor with 8, but is above 7.
        b.refused(States::worked, "search(3, 1, 1, 9, 99)", BAD_VALUE, x -> x.search(3, 1, 1, 9, 99));
        // All arguments are wrong.
        b.refused(States::worked, "search(0, 0, 0, 0, 0)", BAD_VALUE, x -> x.search(0, 0, 0, 0, 0));
    }

    private void ordersAbove25() {
        b.due("25: search(2, 1, 1, 1, 1)", States.group(25, 1).search(2, 1, 1, 1, 1), 0);
        b.due("5 * 5: search(2, 1, 1, 1, 1)", States.group(5, 5).search(2, 1, 1, 1, 1), 0);
        int[][] above = {{26, 1}, {13, 2}, {2, 13}, {27, 1}, {9, 3}, {40, 1}, {2, 20}};
        for (int[] pair : above) {
            b.refused(() -> States.family(pair[0], pair[1], 0, 1), pair[0] + " * " + pair[1] + ": search(2, 1, 1, 1, 1)",
                    NOT_POSSIBLE, x -> x.search(2, 1, 1, 1, 1));
        }
        b.refused(States::full, "search(5, 9, 4, 39, 5000)", NOT_POSSIBLE, x -> x.search(5, 9, 4, 39, 5000));
    }

    private void results() {
        b.test(40, "Makes a search, in place of the latest one", this::inPlaceOfTheLatest);
        b.test(40, "The base blocks stay as they are", this::blocksStay);
        b.test(40, "Returns the number of solutions", this::leastAndMostSolutions);
    }

    private void inPlaceOfTheLatest() {
        DifferenceFamilies x = States.fresh();
        x.search(3, 2, 2, 1, 99);
        searched(x, "search(3, 1, 1, 1, 99)", 2, 5, 5, x.search(3, 1, 1, 1, 99));
        b.due("takeSolution()", x.takeSolution(), 1);
        b.blocks("takeSolution()", x, 11);
        searched(x, "search(3, 1, 1, 6, 99)", 0, 3, 3, x.search(3, 1, 1, 6, 99));
        b.due("takeSolution()", x.takeSolution(), NOT_POSSIBLE);
        b.blocks("takeSolution()", x, 11);
    }

    private void blocksStay() {
        DifferenceFamilies x = States.worked();
        b.due("search(3, 1, 1, 1, 99)", x.search(3, 1, 1, 1, 99), 2);
        b.blocks("search(3, 1, 1, 1, 99)", x, 11, 0, 96, 0, 0, 128);
        b.due("hole()", x.hole(), 17);
        b.due("undo()", x.undo(), 4);
        b.blocks("undo()", x, 11, 0, 64, 0, 0, 128);
    }

    private void leastAndMostSolutions() {
        b.due("search(2, 1, 1, 1, 99)", States.fresh().search(2, 1, 1, 1, 99), 0);
        b.due("2: search(2, 2, 1, 1, 1)", States.group(2, 1).search(2, 2, 1, 1, 1), 1);
        b.due("5: search(5, 5, 1, 1, 1)", States.group(5, 1).search(5, 5, 1, 1, 1), 1);
        // The planes of order 4: two kinds of normal forms in 21.
        b.due("21: search(5, 1, 1, 1, 5000)", States.group(21, 1).search(5, 1, 1, 1, 5000), 2);
        // 11 and 13, four times each at most: 5 lists.
        b.due("search(3, 4, 4, 2, 5000)", States.fresh().search(3, 4, 4, 2, 5000), 5);
    }

    private void steps() {
        b.test(41, "Returns the number of steps of the latest search", this::leastAndMostSteps);
        b.test(41, "0 if there was none", () -> noSearch(DifferenceFamilies::searchSteps));
        b.test(42, "Returns the number of candidates of the latest search", this::leastAndMostCandidates);
        b.test(42, "0 if there was none", () -> noSearch(DifferenceFamilies::candidates));
    }

    private void leastAndMostSteps() {
        DifferenceFamilies x = States.group(5, 5);
        x.search(5, 9, 4, 1, 5000);
        b.due("5 * 5: search(5, 9, 4, 1, 5000); searchSteps()", x.searchSteps(), 5000);
        x.search(5, 9, 4, 1, 4999);
        b.due("search(5, 9, 4, 1, 4999); searchSteps()", x.searchSteps(), 4999);
        x.search(5, 9, 4, 1, 1);
        b.due("search(5, 9, 4, 1, 1); searchSteps()", x.searchSteps(), 1);
        x.search(5, 9, 4, 1, 5001);
        b.due("search(5, 9, 4, 1, 5001); searchSteps()", x.searchSteps(), 1);
        DifferenceFamilies y = States.group(2, 1);
        y.search(5, 9, 4, 1, 5000);
        b.due("2: search(5, 9, 4, 1, 5000); searchSteps()", y.searchSteps(), 0);
    }

    private void leastAndMostCandidates() {
        DifferenceFamilies x = States.group(5, 5);
        x.search(5, 1, 1, 1, 1);
        b.due("5 * 5: search(5, 1, 1, 1, 1); candidates()", x.candidates(), 2130);
        x.search(6, 1, 1, 1, 1);
        b.due("search(6, 1, 1, 1, 1); candidates()", x.candidates(), 2130);
        DifferenceFamilies y = States.group(4, 1);
        y.search(4, 1, 1, 1, 1);
        b.due("4: search(4, 1, 1, 1, 1); candidates()", y.candidates(), 1);
        y.search(5, 1, 1, 1, 1);
        b.due("4: search(5, 1, 1, 1, 1); candidates()", y.candidates(), 0);
    }

    private void noSearch(Boundaries.Call call) {
        b.due("new", call.on(States.fresh()), 0);
        DifferenceFamilies x = States.fresh();
        x.search(1, 1, 1, 1, 1);
        b.due("behind a refused search()", call.on(x), 0);
        DifferenceFamilies y = States.worked();
        y.setGroup(8, 1);
        b.due("behind setGroup()", call.on(y), 0);
        DifferenceFamilies z = States.full();
        z.search(2, 1, 1, 1, 1);
        b.due("behind a search() that was not possible", call.on(z), 0);
    }

    private void takenSolutions() {
        b.test(43, "Makes the sets of the first solution of the latest search the base blocks 0, 1, .., in their order",
                this::firstSolutions);
        b.test(43, "the other base blocks become empty", this::otherBlocks);
        b.test(43, "Returns the number of its sets", this::numbersOfSets);
        b.test(43, "NOT_POSSIBLE if there was no search, or it found no solution", this::noSolution);
    }

    private void firstSolutions() {
        DifferenceFamilies x = States.group(13, 1);
        x.search(3, 1, 2, 1, 5000);
        x.takeSolution();
        b.blocks("13: search(3, 1, 2, 1, 5000); takeSolution()", x, 19, 133);
        // It can be taken again, also behind changes, a new hole and restore().
        x.put(5, 5);
        x.setHole(1, 0);
        x.takeSolution();
        b.blocks("setHole(1, 0); takeSolution()", x, 19, 133);
        x.keep(0);
        x.restore(0);
        b.due("restore(0); takeSolution()", x.takeSolution(), 2);
    }

    private void otherBlocks() {
        DifferenceFamilies x = States.worked();
        Check.putAll(x, 1, 4);
        x.takeSolution();
        b.blocks("takeSolution()", x, 11);
        b.due("undo()", x.undo(), 4);
        b.blocks("undo()", x, 11, 16, 96, 0, 0, 128);
    }

    private void numbersOfSets() {
        DifferenceFamilies x = States.group(3, 1);
        for (int count = 1; count <= 4; count++) {
            x.search(2, count, count, 1, 99);
            b.due("3: search(2, " + count + ", " + count + ", 1, 99); takeSolution()", x.takeSolution(), count);
        }
    }

    private void noSolution() {
        b.refused(States::fresh, "takeSolution()", NOT_POSSIBLE, x -> x.takeSolution());
        b.refused(States::full, "takeSolution()", NOT_POSSIBLE, x -> x.takeSolution());
        b.refused(() -> {
            DifferenceFamilies x = States.worked();
            x.search(2, 1, 1, 1, 99);
            return x;
        }, "takeSolution()", NOT_POSSIBLE, x -> x.takeSolution());
        // One step before the first solution.
        b.refused(() -> {
            DifferenceFamilies x = States.fresh();
            x.search(3, 1, 1, 1, 1);
            return x;
        }, "takeSolution()", NOT_POSSIBLE, x -> x.takeSolution());
        b.refused(() -> {
            DifferenceFamilies x = States.worked();
            x.setGroup(8, 1);
            return x;
        }, "takeSolution()", NOT_POSSIBLE, x -> x.takeSolution());
    }
}
