import java.util.Random;

/** Long runs of calls, the same ones for every run of the test, compared call by call with the reference. */
public final class RandomRunsTest {
    private static final Check CHECK = new Check("RandomRunsTest");
    private static final int[] PROMISES = new int[51];
    // Nothing is promised behind the 512th call; the dearest act, a text, has some 215 calls.
    private static final int LAST_START = 290;
    private static final int MOST_CALLS = 512;

    private final Random random;
    private final int run;
    private final DifferenceFamilies x = new DifferenceFamilies();
    private final Reference y = new Reference();
    private int calls;

    private RandomRunsTest(int run) {
        this.run = run;
        this.random = new Random(run);
    }

    public static void main(String[] args) {
        int runs = args.length > 0 ? Integer.parseInt(args[0]) : 1000;
        int first = args.length > 1 ? Integer.parseInt(args[1]) : 0;
        for (int run = first; run < first + runs && CHECK.isAllRight(); run++) {
            new RandomRunsTest(run).go();
        }
        for (int promise = 2; promise <= 50; promise++) {
            CHECK.holds("promise " + promise + " was asked", PROMISES[promise] > 0);
        }
        CHECK.end();
    }

    private void go() {
        newGroup();
        for (int act = 1; calls < LAST_START && CHECK.isAllRight(); act++) {
            act(random.nextInt(100));
            if (act % 5 == 0) {
                compareState();
            }
        }
        CHECK.holds("run " + run + " has at most 512 calls: " + calls, calls <= MOST_CALLS);
    }

    private void due(int promise, String call, long got, long want) {
        PROMISES[promise]++;
        calls++;
        CHECK.due(promise, "run " + run + ": " + call, got, want);
    }

    private void compareState() {
        for (int block = 0; block < 6; block++) {
            due(19, "block(" + block + ")", x.block(block), y.block(block));
        }
        due(10, "hole()", x.hole(), y.hole());
    }

    private int any(int low, int high) {
        return low + random.nextInt(high - low + 1);
    }

    /** Mostly a number of a range, now and then one beside it or far away. */
    private int about(int low, int high) {
        int kind = random.nextInt(60);
        if (kind == 0) {
            return low - 1;
        }
        if (kind == 1) {
            return high + 1;
        }
        if (kind == 2) {
            return random.nextInt();
        }
        if (kind == 3) {
            return random.nextBoolean() ? Integer.MIN_VALUE : Integer.MAX_VALUE;
        }
        return high < low ? low : any(low, high);
    }

    // These are asked of the reference, so that only the calls that are compared are made.
    private int order() {
        return (int) y.order();
    }

    private int automorphisms() {
        return (int) y.automorphisms();
    }

    private int element() {
        return about(0, order() - 1);
    }

    private int block() {
        return about(0, random.nextInt(3) == 0 ? 5 : 1);
    }

    private void newGroup() {
        int n = any(2, 40);
        int m = any(1, 40 / n);
        if (random.nextInt(3) == 0) {
            n = any(2, 6);
            m = any(2, 6);
        }
        due(2, "setGroup(" + n + ", " + m + ")", x.setGroup(n, m), y.setGroup(n, m));
    }

    private void act(int kind) {
        if (kind < 36) {
            change(kind);
        } else if (kind < 60) {
            askBlocks(kind);
        } else if (kind < 80) {
            askFamily(kind);
        } else {
            act(kind, any(0, 5));
        }
    }

    private void act(int kind, int part) {
        if (kind < 88) {
            textCall(part);
        } else if (kind < 92) {
            slotCall(part);
        } else if (kind < 97) {
            searchCall();
        } else if (kind == 97 && part == 0) {
            newGroup();
        } else if (kind == 98 && part < 2) {
            int n = about(2, 40);
            int m = about(1, 3);
            due(2, "setGroup(" + n + ", " + m + ")", x.setGroup(n, m), y.setGroup(n, m));
        } else if (kind == 99 && part < 3) {
            int a = element();
            int b = random.nextBoolean() ? 0 : element();
            due(9, "setHole(" + a + ", " + b + ")", x.setHole(a, b), y.setHole(a, b));
        }
    }

    private void change(int kind) {
        int block = block();
        int a = element();
        int b = element();
        int index = about(1, random.nextBoolean() ? 3 : 20);
        int t = about(1, 1000);
        int automorphism = about(0, automorphisms() - 1);
        if (kind < 14) {
            due(11, "put(" + block + ", " + a + ")", x.put(block, a), y.put(block, a));
        } else if (kind < 18) {
            due(12, "take(" + block + ", " + a + ")", x.take(block, a), y.take(block, a));
        } else if (kind < 21) {
            due(13, "shift(" + block + ", " + a + ")", x.shift(block, a), y.shift(block, a));
        } else if (kind < 23) {
            due(14, "apply(" + automorphism + ")", x.apply(automorphism), y.apply(automorphism));
        } else if (kind < 25) {
            due(15, "multiply(" + t + ")", x.multiply(t), y.multiply(t));
        } else if (kind < 30) {
            due(16, "exchange(" + block + ", " + a + ", " + b + ")", x.exchange(block, a, b), y.exchange(block, a, b));
        } else if (kind < 33) {
            due(17, "improve(" + index + ")", x.improve(index), y.improve(index));
        } else {
            due(18, "undo()", x.undo(), y.undo());
        }
    }

    private void askBlocks(int kind) {
        int block = block();
        int a = element();
        int b = element();
        int t = about(0, 1000);
        int automorphism = about(0, automorphisms() - 1);
        switch (kind) {
            case 36 -> due(3, "order()", x.order(), y.order());
            case 37 -> due(4, "sum(" + a + ", " + b + ")", x.sum(a, b), y.sum(a, b));
            case 38 -> due(5, "multiple(" + a + ", " + t + ")", x.multiple(a, t), y.multiple(a, t));
            case 39 -> due(6, "orderOf(" + a + ")", x.orderOf(a), y.orderOf(a));
            case 40 -> due(7, "automorphisms()", x.automorphisms(), y.automorphisms());
            case 41 -> due(8, "image(" + automorphism + ", " + a + ")", x.image(automorphism, a),
                    y.image(automorphism, a));
            case 42 -> due(19, "block(" + block + ")", x.block(block), y.block(block));
            case 43 -> due(20, "normal(" + block + ")", x.normal(block), y.normal(block));
            case 44 -> due(21, "stabilizer(" + block + ")", x.stabilizer(block), y.stabilizer(block));
            case 45 -> due(22, "blockSize()", x.blockSize(), y.blockSize());
            case 46 -> due(23, "count(" + a + ")", x.count(a), y.count(a));
            case 47 -> due(24, "covered()", x.covered(), y.covered());
            case 48 -> due(25, "greatestCount()", x.greatestCount(), y.greatestCount());
            case 49 -> due(26, "index()", x.index(), y.index());
            case 50 -> due(27, "deficiency(" + t + ")", x.deficiency(t), y.deficiency(t));
            case 51 -> due(27, "deficiency(" + t % 22 + ")", x.deficiency(t % 22), y.deficiency(t % 22));
            case 52 -> due(28, "isMultiplier(" + a + ")", x.isMultiplier(a), y.isMultiplier(a));
            case 53 -> due(29, "multipliers()", x.multipliers(), y.multipliers());
            case 54 -> due(33, "designBlocks()", x.designBlocks(), y.designBlocks());
            case 55 -> due(34, "designBlock(" + t % 99 + ")", x.designBlock(t % 99), y.designBlock(t % 99));
            case 56 -> due(35, "replication(" + a + ")", x.replication(a), y.replication(a));
            case 57 -> due(36, "pairs(" + a + ", " + b + ")", x.pairs(a, b), y.pairs(a, b));
            case 58 -> due(37, "intersections(" + t % 5 + ")", x.intersections(t % 5), y.intersections(t % 5));
            default -> due(37, "intersections(" + t + ")", x.intersections(t), y.intersections(t));
        }
    }

    private void askFamily(int kind) {
        int p = any(1, 8);
        int place = about(0, 6);
        if (kind < 68) {
            due(38, "rank(" + p + ")", x.rank(p), y.rank(p));
        } else if (kind < 70) {
            due(39, "disjointBlocks()", x.disjointBlocks(), y.disjointBlocks());
        } else if (kind == 70 && isCheap()) {
            due(30, "symmetries()", x.symmetries(), y.symmetries());
        } else if (kind == 71 && isCheap()) {
            due(31, "canonical(" + place + ")", x.canonical(place), y.canonical(place));
        } else if (kind == 72 && isCheap()) {
            due(50, "checksum()", x.checksum(), y.checksum());
        } else if (kind == 73) {
            due(41, "searchSteps()", x.searchSteps(), y.searchSteps());
        } else if (kind == 74) {
            due(42, "candidates()", x.candidates(), y.candidates());
        } else if (kind == 75) {
            due(43, "takeSolution()", x.takeSolution(), y.takeSolution());
        }
    }

    /** The reference is slow where there are many automorphisms. */
    private boolean isCheap() {
        return automorphisms() < 50 || random.nextInt(8) == 0;
    }

    private void slotCall(int part) {
        int slot = about(0, 1);
        if (part == 0) {
            due(48, "keep(" + slot + ")", x.keep(slot), y.keep(slot));
        } else if (part == 1) {
            due(49, "restore(" + slot + ")", x.restore(slot), y.restore(slot));
        } else if (isCheap()) {
            due(32, "isEquivalent(" + slot + ")", x.isEquivalent(slot), y.isEquivalent(slot));
        }
    }

    private void searchCall() {
        int size = about(2, order() > 14 ? 3 : 5);
        int index = about(1, random.nextBoolean() ? 2 : 9);
        int count = about(1, 4);
        int t = random.nextBoolean() ? 1 : about(1, order() - 1);
        int steps = about(1, random.nextInt(4) == 0 ? 5000 : 200);
        String call = "search(" + size + ", " + index + ", " + count + ", " + t + ", " + steps + ")";
        due(40, call, x.search(size, index, count, t, steps), y.search(size, index, count, t, steps));
        due(41, call + "; searchSteps()", x.searchSteps(), y.searchSteps());
        due(42, call + "; candidates()", x.candidates(), y.candidates());
        if (random.nextInt(3) == 0) {
            due(43, call + "; takeSolution()", x.takeSolution(), y.takeSolution());
        }
    }

    private void textCall(int part) {
        if (part == 0) {
            due(45, "clearText()", x.clearText(), y.clearText());
        } else if (part == 1) {
            due(47, "read()", x.read(), y.read());
        } else if (part == 2) {
            appendOne(about(32, 126));
            due(46, "faultPosition()", x.faultPosition(), y.faultPosition());
        } else {
            if (random.nextInt(3) > 0) {
                due(45, "clearText()", x.clearText(), y.clearText());
            }
            appendText();
            due(46, "faultPosition()", x.faultPosition(), y.faultPosition());
        }
    }

    private void appendOne(int character) {
        due(44, "append(" + character + ")", x.append(character), y.append(character));
    }

    /** Appends blocks of elements, and now and then spoils a character. */
    private void appendText() {
        int n = 2;
        while (n < order() && y.orderOf(order() - 1) % n != 0) {
            n++;
        }
        StringBuilder text = new StringBuilder();
        boolean hasPoints = random.nextBoolean();
        for (int block = any(0, 7); block > 0; block--) {
            for (int element = any(1, 5); element > 0; element--) {
                text.append(any(0, any(1, order())));
                text.append(hasPoints ? "." + any(0, any(1, n)) : "");
                text.append(element == 1 ? ';' : ',');
            }
        }
        if (text.length() > 0 && random.nextInt(3) == 0) {
            text.setCharAt(random.nextInt(text.length()), "0123.,;9 x".charAt(random.nextInt(10)));
        }
        if (text.length() > 0 && random.nextInt(6) == 0) {
            text.setLength(random.nextInt(text.length()));
        }
        for (int i = 0; i < text.length(); i++) {
            appendOne(text.charAt(i));
        }
    }
}
