import java.util.ArrayList;
import java.util.List;

/** 'The group', and promises 1 to 10. */
final class GroupBoundaries {
    private static final int BAD_VALUE = DifferenceFamilies.BAD_VALUE;
    private static final int NOT_POSSIBLE = DifferenceFamilies.NOT_POSSIBLE;
    private static final int NONE = DifferenceFamilies.NONE;

    private final Boundaries b;

    GroupBoundaries(Boundaries b) {
        this.b = b;
    }

    void run() {
        newObject();
        groups();
        sums();
        multiples();
        automorphismSentences();
        holes();
    }

    private void newObject() {
        b.test(1, "At first n is 7 and m is 1", this::firstGroup);
        b.test(1, "at first the one that consists of 0 alone", () -> b.due("hole()", States.fresh().hole(), 1));
        b.test(1, "at first all are empty", () -> b.blocks("new", States.fresh()));
        b.test(1, "an empty text buffer, no search and empty slots", this::emptyBeginning);
    }

    private void firstGroup() {
        b.due("order()", States.fresh().order(), 7);
        b.due("orderOf(6)", States.fresh().orderOf(6), 7);
        DifferenceFamilies x = States.fresh();
        // Without a second factor, an element has no point.
        Check.appendAll(x, "6;");
        b.due("\"6;\"; faultPosition()", x.faultPosition(), NONE);
        b.due("setGroup(2, 1)", x.setGroup(2, 1), 7);
    }

    private void emptyBeginning() {
        DifferenceFamilies x = States.fresh();
        b.due("clearText()", x.clearText(), 0);
        b.due("faultPosition()", x.faultPosition(), NONE);
        b.due("searchSteps()", x.searchSteps(), 0);
        b.due("candidates()", x.candidates(), 0);
        b.due("takeSolution()", x.takeSolution(), NOT_POSSIBLE);
        b.due("undo()", x.undo(), NOT_POSSIBLE);
        for (int slot = 0; slot < 2; slot++) {
            b.due("isEquivalent(" + slot + ")", x.isEquivalent(slot), NOT_POSSIBLE);
            b.due("restore(" + slot + ")", x.restore(slot), NOT_POSSIBLE);
        }
    }

    private void groups() {
        b.test(2, "n is at least 2, m is at least 1, and the order of the group, v = n * m, is at most 40",
                this::allGroups);
        b.test(2, "n: the order of the first cyclic group, at least 2",
                () -> b.range(States::fresh, "setGroup(?, 1)", 2, 7, 40, 7, (x, n) -> x.setGroup(n, 1)));
        b.test(2, "m: the order of the second cyclic group, at least 1",
                () -> b.range(States::worked, "setGroup(2, ?)", 1, 8, 20, 8, (x, m) -> x.setGroup(2, m)));
        b.test(2, "Sets the group", this::groupIsSet);
        b.test(2, "Sets the group", this::nothingIsLeftOfAnotherGroup);
        b.test(2, "The hole and the base blocks become as at first", this::holeAndBlocksAgain);
        b.test(2, "no search has been made then, and the slots are empty", this::noSearchAndNoSlots);
        b.test(2, "Returns the previous order of the group", this::previousOrders);
        b.test(2, "BAD_VALUE, also if n * m is above 40", this::productsAbove40);
        b.test(3, "Returns the order of the group", this::orders);
    }

    private void allGroups() {
        for (int n = -1; n <= 42; n++) {
            for (int m = -1; m <= 42; m++) {
                boolean isGroup = n >= 2 && m >= 1 && n * m <= 40;
                b.due("setGroup(" + n + ", " + m + ")", States.fresh().setGroup(n, m), isGroup ? 7 : BAD_VALUE);
            }
        }
    }

    private void groupIsSet() {
        DifferenceFamilies x = States.worked();
        x.setGroup(2, 20);
        b.due("setGroup(2, 20); order()", x.order(), 40);
        b.due("orderOf(1)", x.orderOf(1), 20);
        b.due("orderOf(20)", x.orderOf(20), 2);
        x.setGroup(20, 2);
        b.due("setGroup(20, 2); orderOf(1)", x.orderOf(1), 2);
        b.due("orderOf(20)", x.orderOf(20), 2);
        b.due("orderOf(2)", x.orderOf(2), 20);
        x.setGroup(2, 1);
        b.due("setGroup(2, 1); orderOf(1)", x.orderOf(1), 2);
        b.due("orderOf(2)", x.orderOf(2), BAD_VALUE);
    }

    /** Work in a greater or a smaller group before leaves nothing but the text. */
    private void nothingIsLeftOfAnotherGroup() {
        for (Boundaries.Start start : States.all()) {
            DifferenceFamilies x = start.make();
            x.checksum();
            x.improve(1);
            x.rank(7);
            x.clearText();
            int order = x.order();
            States.work(x);
            b.alike("work in a group of order " + order, x, States.worked());
        }
        DifferenceFamilies y = States.group(5, 5);
        y.search(3, 9, 4, 1, 5000);
        y.checksum();
        States.work(y);
        b.alike("work in 5 * 5", y, States.worked());
    }

    private void holeAndBlocksAgain() {
        for (Boundaries.Start start : States.all()) {
            DifferenceFamilies x = start.make();
            int order = x.order();
            b.due("setGroup(8, 1)", x.setGroup(8, 1), order);
            b.due("hole()", x.hole(), 1);
            b.blocks("setGroup(8, 1)", x);
        }
    }

    private void noSearchAndNoSlots() {
        // The same group again empties everything too.
        DifferenceFamilies x = States.worked();
        b.due("takeSolution()", x.takeSolution(), 1);
        x.setGroup(8, 1);
        b.due("setGroup(8, 1); searchSteps()", x.searchSteps(), 0);
        b.due("candidates()", x.candidates(), 0);
        b.due("takeSolution()", x.takeSolution(), NOT_POSSIBLE);
        for (int slot = 0; slot < 2; slot++) {
            b.due("isEquivalent(" + slot + ")", x.isEquivalent(slot), NOT_POSSIBLE);
            b.due("restore(" + slot + ")", x.restore(slot), NOT_POSSIBLE);
        }
        // The text is not among what becomes as at first.
        b.due("clearText()", x.clearText(), 6);
    }

    private void previousOrders() {
        DifferenceFamilies x = States.fresh();
        b.due("setGroup(2, 1)", x.setGroup(2, 1), 7);
        b.due("setGroup(2, 1)", x.setGroup(2, 1), 2);
        b.due("setGroup(8, 5)", x.setGroup(8, 5), 2);
        b.due("setGroup(41, 1)", x.setGroup(41, 1), BAD_VALUE);
        b.due("setGroup(5, 8)", x.setGroup(5, 8), 40);
        b.due("setGroup(3, 13)", x.setGroup(3, 13), 40);
        b.due("setGroup(7, 1)", x.setGroup(7, 1), 39);
    }

    private void productsAbove40() {
        int[][] above = {{41, 1}, {2, 21}, {21, 2}, {3, 14}, {14, 3}, {6, 7}, {7, 6}, {11, 4}, {4, 11}, {9, 5}, {5, 9},
            // As ints, these products go round to 0, 4, 20, 0 and 1.
            {65536, 65536}, {2, -2147483646}, {3, 1431655772}, {1 << 30, 4}, {Integer.MAX_VALUE, Integer.MAX_VALUE},
            {-2, -3}, {-7, -1}};
        for (int[] pair : above) {
            b.refused(States::worked, "setGroup(" + pair[0] + ", " + pair[1] + ")", BAD_VALUE,
                    x -> x.setGroup(pair[0], pair[1]));
        }
        int[][] at40 = {{40, 1}, {20, 2}, {10, 4}, {8, 5}, {5, 8}, {4, 10}, {2, 20}};
        for (int[] pair : at40) {
            b.due("setGroup(" + pair[0] + ", " + pair[1] + ")", States.fresh().setGroup(pair[0], pair[1]), 7);
        }
    }

    private void orders() {
        b.due("setGroup(2, 1); order()", States.group(2, 1).order(), 2);
        b.due("setGroup(40, 1); order()", States.group(40, 1).order(), 40);
        b.due("setGroup(2, 20); order()", States.group(2, 20).order(), 40);
        b.due("setGroup(41, 1); order()", States.group(41, 1).order(), 7);
    }

    private void sums() {
        b.test(4, "Its elements are the pairs (a, b) with a from 0 to n - 1 and b from 0 to m - 1", this::pairsInText);
        b.test(4, "adding the first numbers modulo n and the second numbers modulo m", this::sumsOfPairs);
        b.test(47, "The element (a, b) has the number m * a + b", this::numbersOfPairs);
        b.test(11, "elements are given by their numbers, 0 to v - 1", this::elementNumbers);
        b.test(4, "x: an element",
                () -> b.range(States::worked, "sum(?, 3)", 0, 3, 7, 2, (x, e) -> x.sum(e, 3)));
        b.test(4, "y: an element",
                () -> b.range(States::worked, "sum(3, ?)", 0, 3, 7, 2, (x, e) -> x.sum(3, e)));
        b.test(4, "Returns x + y", this::sumsThatGoRound);
        b.test(4, "BAD_VALUE", this::refusedSums);
    }

    private void fault(int n, int m, String text, int due) {
        DifferenceFamilies x = States.group(n, m);
        Check.appendAll(x, text);
        b.due(n + " * " + m + ", \"" + text + "\": faultPosition()", x.faultPosition(), due);
    }

    private void pairsInText() {
        fault(3, 2, "0.0;", NONE);
        fault(3, 2, "2.1;", NONE);
        fault(3, 2, "3.1;", 0);
        fault(3, 2, "2.2;", 2);
        fault(2, 20, "1.19;", NONE);
        fault(2, 20, "2.19;", 0);
        fault(2, 20, "1.20;", 2);
    }

    private void sumsOfPairs() {
        int[][] groups = {{2, 1}, {7, 1}, {40, 1}, {2, 2}, {3, 4}, {4, 3}};
        for (int[] group : groups) {
            int m = group[1];
            for (int e = 0; e < group[0] * m; e++) {
                DifferenceFamilies x = States.group(group[0], m);
                for (int f = 0; f < group[0] * m; f++) {
                    int due = m * ((e / m + f / m) % group[0]) + (e % m + f % m) % m;
                    b.due(group[0] + " * " + m + ": sum(" + e + ", " + f + ")", x.sum(e, f), due);
                }
            }
        }
    }

    private void numbersOfPairs() {
        for (int a = 0; a < 5; a++) {
            for (int second = 0; second < 8; second++) {
                DifferenceFamilies x = States.group(5, 8);
                Check.appendAll(x, a + "." + second + ";");
                x.read();
                b.due("\"" + a + "." + second + ";\"; read(); block(0)", x.block(0), 1L << (8 * a + second));
            }
        }
    }

    private void elementNumbers() {
        for (int order : new int[] {2, 7, 40}) {
            DifferenceFamilies x = States.group(order, 1);
            b.due("put(0, -1)", x.put(0, -1), BAD_VALUE);
            b.due("put(0, 0)", x.put(0, 0), 1);
            b.due("put(0, " + (order - 1) + ")", x.put(0, order - 1), 2);
            b.due("put(0, " + order + ")", x.put(0, order), BAD_VALUE);
        }
    }

    private void sumsThatGoRound() {
        DifferenceFamilies x = States.fresh();
        b.due("sum(0, 0)", x.sum(0, 0), 0);
        b.due("sum(6, 0)", x.sum(6, 0), 6);
        b.due("sum(6, 1)", x.sum(6, 1), 0);
        b.due("sum(6, 6)", x.sum(6, 6), 5);
        x.setGroup(4, 6);
        // (0, 5) + (0, 1): the second number goes round and the first one stays.
        b.due("sum(5, 1)", x.sum(5, 1), 0);
        b.due("sum(18, 6)", x.sum(18, 6), 0);
        b.due("sum(23, 7)", x.sum(23, 7), 0);
        b.due("sum(23, 23)", x.sum(23, 23), 16);
        x.setGroup(2, 20);
        b.due("sum(39, 39)", x.sum(39, 39), 18);
        x.setGroup(20, 2);
        b.due("sum(39, 39)", x.sum(39, 39), 36);
        x.setGroup(2, 1);
        b.due("sum(1, 1)", x.sum(1, 1), 0);
    }

    private void refusedSums() {
        b.refused(States::worked, "sum(8, 8)", BAD_VALUE, x -> x.sum(8, 8));
        b.refused(States::worked, "sum(-1, 1)", BAD_VALUE, x -> x.sum(-1, 1));
        b.refused(States::worked, "sum(8, -8)", BAD_VALUE, x -> x.sum(8, -8));
        b.refused(States::workedPairs, "sum(8, 9)", BAD_VALUE, x -> x.sum(8, 9));
    }

    private void multiples() {
        b.test(5, "The element t * x is the sum of t times x (0 if t is 0)", this::multiplesAreSums);
        b.test(5, "x: an element",
                () -> b.range(States::worked, "multiple(?, 3)", 0, 0, 7, 5, (x, e) -> x.multiple(e, 3)));
        b.test(5, "t: 0 to 1000",
                () -> b.range(States::fresh, "multiple(1, ?)", 0, 0, 1000, 6, (x, t) -> x.multiple(1, t)));
        b.test(5, "Returns t * x", this::multiplesThatGoRound);
        b.test(5, "BAD_VALUE", this::refusedMultiples);
        b.test(6, "x: an element",
                () -> b.range(States::worked, "orderOf(?)", 0, 1, 7, 8, (x, e) -> x.orderOf(e)));
        b.test(6, "Returns the smallest t of at least 1 for which t * x is 0", this::ordersOfElements);
        b.test(6, "BAD_VALUE",
                () -> b.refused(() -> States.group(2, 1), "orderOf(2)", BAD_VALUE, x -> x.orderOf(2)));
    }

    private void multiplesAreSums() {
        int[][] cases = {{40, 1, 39}, {2, 20, 39}, {5, 8, 9}, {7, 1, 3}, {2, 1, 1}, {6, 6, 8}};
        for (int[] one : cases) {
            int sum = 0;
            DifferenceFamilies x = States.group(one[0], one[1]);
            for (int t = 0; t <= 1000; t++) {
                b.due("multiple(" + one[2] + ", " + t + ")", x.multiple(one[2], t), sum);
                sum = x.sum(sum, one[2]);
                x = t % 200 == 0 ? States.group(one[0], one[1]) : x;
            }
        }
    }

    private void multiplesThatGoRound() {
        DifferenceFamilies x = States.group(4, 6);
        b.due("multiple(23, 0)", x.multiple(23, 0), 0);
        b.due("multiple(23, 1)", x.multiple(23, 1), 23);
        b.due("multiple(23, 12)", x.multiple(23, 12), 0);
        b.due("multiple(23, 13)", x.multiple(23, 13), 23);
        b.due("multiple(23, 999)", x.multiple(23, 999), 9);
        b.due("multiple(23, 1000)", x.multiple(23, 1000), 2);
        b.due("multiple(0, 1000)", x.multiple(0, 1000), 0);
    }

    private void refusedMultiples() {
        b.refused(States::worked, "multiple(8, 0)", BAD_VALUE, x -> x.multiple(8, 0));
        b.refused(States::worked, "multiple(0, -1)", BAD_VALUE, x -> x.multiple(0, -1));
        b.refused(States::worked, "multiple(8, 1001)", BAD_VALUE, x -> x.multiple(8, 1001));
    }

    private void ordersOfElements() {
        b.due("orderOf(0)", States.group(2, 1).orderOf(0), 1);
        b.due("orderOf(1)", States.group(2, 1).orderOf(1), 2);
        b.due("orderOf(39)", States.group(40, 1).orderOf(39), 40);
        b.due("orderOf(20)", States.group(40, 1).orderOf(20), 2);
        b.due("orderOf(0)", States.group(40, 1).orderOf(0), 1);
        b.due("orderOf(39)", States.group(2, 20).orderOf(39), 20);
        b.due("orderOf(9)", States.group(5, 8).orderOf(9), 40);
        b.due("orderOf(24)", States.group(5, 5).orderOf(24), 5);
    }

    private void automorphismSentences() {
        b.test(8, "maps the sum of any two elements to the sum of their images", this::imagesOfSums);
        b.test(8, "numbered from 0 in lexicographic order", this::allPermutations);
        b.test(7, "Returns the number of automorphisms", this::numbersOfAutomorphisms);
        b.test(8, "automorphism: the number of an automorphism", this::rangesOfAutomorphisms);
        b.test(8, "x: an element",
                () -> b.range(States::worked, "image(3, ?)", 0, 0, 7, 1, (x, e) -> x.image(3, e)));
        b.test(8, "Returns the image of x", this::firstAndLastImages);
        b.test(8, "BAD_VALUE",
                () -> b.refused(States::worked, "image(4, 8)", BAD_VALUE, x -> x.image(4, 8)));
    }

    private int[] images(int n, int m, int automorphism) {
        DifferenceFamilies x = States.group(n, m);
        int[] images = new int[n * m];
        for (int e = 0; e < n * m; e++) {
            images[e] = x.image(automorphism, e);
        }
        return images;
    }

    private static int[][] sumTable(int n, int m) {
        int[][] sums = new int[n * m][n * m];
        for (int e = 0; e < n * m; e++) {
            DifferenceFamilies x = States.group(n, m);
            for (int f = 0; f < n * m; f++) {
                sums[e][f] = x.sum(e, f);
            }
        }
        return sums;
    }

    private static boolean isAdditive(int[] images, int[][] sums) {
        for (int e = 0; e < images.length; e++) {
            for (int f = 0; f < images.length; f++) {
                if (images[sums[e][f]] != sums[images[e]][images[f]]) {
                    return false;
                }
            }
        }
        return true;
    }

    private void imagesOfSums() {
        int[][] groups = {{5, 5}, {6, 6}, {2, 20}, {20, 2}, {40, 1}, {4, 8}, {9, 3}, {2, 1}};
        for (int[] group : groups) {
            int[][] sums = sumTable(group[0], group[1]);
            int[] before = null;
            for (int number = 0; number < States.group(group[0], group[1]).automorphisms(); number++) {
                int[] images = images(group[0], group[1], number);
                String name = group[0] + " * " + group[1] + ", automorphism " + number;
                b.holds(name + " keeps sums", isAdditive(images, sums));
                b.due(name + " has all elements", java.util.Arrays.stream(images).distinct().count(), images.length);
                b.holds(name + " is behind the one before", before == null
                        || java.util.Arrays.compare(before, images) < 0);
                before = images;
            }
        }
    }

    /** In small groups, all permutations in lexicographic order, those that keep sums picked out. */
    private void allPermutations() {
        for (int n = 2; n <= 8; n++) {
            for (int m = 1; n * m <= 8; m++) {
                List<int[]> due = new ArrayList<>();
                extend(new int[n * m], 1, sumTable(n, m), due);
                b.due(n + " * " + m + ": automorphisms()", States.group(n, m).automorphisms(), due.size());
                for (int number = 0; number < due.size(); number++) {
                    int[] images = images(n, m, number);
                    for (int e = 0; e < n * m; e++) {
                        b.due(n + " * " + m + ": image(" + number + ", " + e + ")", images[e], due.get(number)[e]);
                    }
                }
            }
        }
    }

    private static void extend(int[] images, int length, int[][] sums, List<int[]> found) {
        if (length == images.length) {
            if (isAdditive(images, sums)) {
                found.add(images.clone());
            }
            return;
        }
        for (int image = 1; image < images.length; image++) {
            boolean isNew = true;
            for (int e = 1; e < length; e++) {
                isNew = isNew && images[e] != image;
            }
            if (isNew) {
                images[length] = image;
                extend(images, length + 1, sums, found);
            }
        }
    }

    private void numbersOfAutomorphisms() {
        b.due("2 * 1", States.group(2, 1).automorphisms(), 1);
        b.due("3 * 1", States.group(3, 1).automorphisms(), 2);
        b.due("2 * 2", States.group(2, 2).automorphisms(), 6);
        b.due("40 * 1", States.group(40, 1).automorphisms(), 16);
        b.due("37 * 1", States.group(37, 1).automorphisms(), 36);
        b.due("5 * 5", States.group(5, 5).automorphisms(), 480);
        b.due("6 * 6", States.group(6, 6).automorphisms(), 288);
        b.due("2 * 20", States.group(2, 20).automorphisms(), 32);
        b.due("20 * 2", States.group(20, 2).automorphisms(), 32);
    }

    private void rangesOfAutomorphisms() {
        b.range(States::worked, "image(?, 7)", 0, 7, 3, 1, (x, number) -> x.image(number, 7));
        b.range(() -> States.group(2, 1), "image(?, 1)", 0, 1, 0, 1, (x, number) -> x.image(number, 1));
        b.range(() -> States.group(5, 5), "image(?, 1)", 0, 1, 479, 24, (x, number) -> x.image(number, 1));
    }

    private void firstAndLastImages() {
        DifferenceFamilies x = States.group(5, 5);
        for (int e = 0; e < 25; e++) {
            b.due("image(0, " + e + ")", x.image(0, e), e);
            // The last one maps (0, 1) to (4, 4) and (1, 0) to (4, 3).
            int due = 5 * ((4 * (e / 5) + 4 * (e % 5)) % 5) + (3 * (e / 5) + 4 * (e % 5)) % 5;
            b.due("image(479, " + e + ")", x.image(479, e), due);
        }
        x.setGroup(40, 1);
        b.due("image(15, 39)", x.image(15, 39), 1);
        b.due("image(15, 0)", x.image(15, 0), 0);
    }

    private void holes() {
        b.test(9, "The hole is a subgroup", this::holesAreSubgroups);
        b.test(9, "Makes the smallest subgroup that contains two elements the hole", this::smallestSubgroups);
        b.test(9, "x: an element",
                () -> b.range(States::worked, "setHole(?, 4)", 0, 2, 7, 8, (x, e) -> x.setHole(e, 4)));
        b.test(9, "y: an element",
                () -> b.range(States::worked, "setHole(4, ?)", 0, 2, 7, 8, (x, e) -> x.setHole(4, e)));
        b.test(9, "Returns the number of its elements", this::sizesOfHoles);
        b.test(9, "BAD_VALUE", this::refusedHoles);
        b.test(10, "Returns the set of the elements of the hole", this::setsOfHoles);
    }

    private void holesAreSubgroups() {
        int[][] sums = sumTable(4, 6);
        for (int e = 0; e < 24; e++) {
            for (int f = 0; f < 24; f++) {
                DifferenceFamilies x = States.group(4, 6);
                x.setHole(e, f);
                long hole = x.hole();
                boolean isClosed = (hole & 1) == 1;
                for (int one = 0; one < 24; one++) {
                    for (int two = 0; two < 24; two++) {
                        boolean areIn = (hole >> one & hole >> two & 1) == 1;
                        isClosed = isClosed && (!areIn || (hole >> sums[one][two] & 1) == 1);
                    }
                }
                b.holds("setHole(" + e + ", " + f + ") makes a subgroup", isClosed);
            }
        }
    }

    private void smallestSubgroups() {
        DifferenceFamilies x = States.group(6, 6);
        int[][] cases = {{0, 0}, {0, 18}, {3, 0}, {3, 18}, {14, 14}, {2, 3}};
        long[] due = {1, Check.set(0, 18), Check.set(0, 3), Check.set(0, 3, 18, 21), Check.set(0, 14, 28), 63};
        for (int i = 0; i < cases.length; i++) {
            x.setHole(cases[i][0], cases[i][1]);
            b.due("setHole(" + cases[i][0] + ", " + cases[i][1] + "); hole()", x.hole(), due[i]);
        }
    }

    private void sizesOfHoles() {
        b.due("setHole(0, 0)", States.group(40, 1).setHole(0, 0), 1);
        b.due("setHole(39, 39)", States.group(40, 1).setHole(39, 39), 40);
        b.due("setHole(8, 20)", States.group(40, 1).setHole(8, 20), 10);
        b.due("setHole(5, 8)", States.group(40, 1).setHole(5, 8), 40);
        b.due("setHole(1, 20)", States.group(2, 20).setHole(1, 20), 40);
        b.due("setHole(1, 1)", States.group(2, 1).setHole(1, 1), 2);
        b.due("setHole(0, 0)", States.group(2, 1).setHole(0, 0), 1);
    }

    private void refusedHoles() {
        b.refused(States::worked, "setHole(1, 8)", BAD_VALUE, x -> x.setHole(1, 8));
        b.refused(States::worked, "setHole(8, 1)", BAD_VALUE, x -> x.setHole(8, 1));
        b.refused(States::worked, "setHole(-1, 0)", BAD_VALUE, x -> x.setHole(-1, 0));
        b.refused(States::workedPairs, "setHole(9, 9)", BAD_VALUE, x -> x.setHole(9, 9));
    }

    private void setsOfHoles() {
        DifferenceFamilies x = States.group(40, 1);
        b.due("hole()", x.hole(), 1);
        x.setHole(1, 0);
        b.due("setHole(1, 0); hole()", x.hole(), (1L << 40) - 1);
        x.setHole(20, 0);
        b.due("setHole(20, 0); hole()", x.hole(), Check.set(0, 20));
        x.setHole(40, 0);
        b.due("setHole(40, 0); hole()", x.hole(), Check.set(0, 20));
        x.setGroup(2, 1);
        b.due("setGroup(2, 1); hole()", x.hole(), 1);
        x.setHole(0, 1);
        b.due("setHole(0, 1); hole()", x.hole(), 3);
    }
}
