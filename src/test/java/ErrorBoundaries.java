/** 'Return values': which error comes, which one comes first, and that a refused call changes nothing. */
final class ErrorBoundaries {
    private static final int BAD_VALUE = DifferenceFamilies.BAD_VALUE;
    private static final int FULL = DifferenceFamilies.FULL;
    private static final int NOT_POSSIBLE = DifferenceFamilies.NOT_POSSIBLE;
    private static final int NONE = DifferenceFamilies.NONE;

    private final Boundaries b;

    ErrorBoundaries(Boundaries b) {
        this.b = b;
    }

    void run() {
        b.test(1, "An object is used for at most 512 calls after it has been made", this::the512thCall);
        b.test(34, "BAD_VALUE: an argument is out of its range, or names something that does not exist",
                this::whatDoesNotExist);
        b.test(44, "FULL: there is no room", this::noRoom);
        b.test(18, "NOT_POSSIBLE: the call is not possible now", this::notPossibleNow);
        b.test(11, "returns the first one that applies", this::firstErrorOfChanges);
        b.test(32, "returns the first one that applies", this::firstErrorOfSlots);
        b.test(40, "returns the first one that applies", this::firstErrorOfSearch);
        b.test(44, "returns the first one that applies", this::firstErrorOfAppend);
        b.test(2, "a call that returns an error changes nothing", this::refusedGroupCalls);
        b.test(11, "a call that returns an error changes nothing", this::refusedBlockCalls);
        b.test(23, "a call that returns an error changes nothing", this::refusedFamilyCalls);
        b.test(33, "a call that returns an error changes nothing", this::refusedDesignCalls);
        b.test(40, "a call that returns an error changes nothing", this::refusedSearchTextAndSlotCalls);
        b.test(20, "NONE is no error", this::noneIsNoError);
        b.test(20, "it is returned only if no error applies", this::errorsBeforeNone);
    }

    private void the512thCall() {
        DifferenceFamilies x = States.fresh();
        for (int call = 1; call <= 510; call += 2) {
            b.due("put(0, 3) as call " + call, x.put(0, 3), 1);
            b.due("take(0, 3) as call " + (call + 1), x.take(0, 3), 0);
        }
        b.due("undo() as call 511", x.undo(), 4);
        b.due("block(0) as call 512", x.block(0), 8);
    }

    private void whatDoesNotExist() {
        b.due("designBlock(0) without blocks", States.fresh().designBlock(0), BAD_VALUE);
        b.due("designBlock(7) with one block", States.family(7, 1, 0, 1, 3).designBlock(7), BAD_VALUE);
        b.due("image(6, 0)", States.fresh().image(6, 0), BAD_VALUE);
        b.due("put(6, 0)", States.fresh().put(6, 0), BAD_VALUE);
        b.due("put(0, 7)", States.fresh().put(0, 7), BAD_VALUE);
        b.due("keep(2)", States.fresh().keep(2), BAD_VALUE);
    }

    private void noRoom() {
        b.refused(States::full, "append(59)", FULL, x -> x.append(';'));
        DifferenceFamilies x = States.full();
        x.clearText();
        b.due("clearText(); append(59)", x.append(';'), 1);
    }

    private void notPossibleNow() {
        DifferenceFamilies x = States.fresh();
        b.due("undo()", x.undo(), NOT_POSSIBLE);
        x.put(0, 0);
        b.due("put(0, 0); undo()", x.undo(), 0);
        b.due("undo()", x.undo(), NOT_POSSIBLE);
        b.due("restore(0)", x.restore(0), NOT_POSSIBLE);
        x.keep(0);
        b.due("keep(0); restore(0)", x.restore(0), 0);
        b.due("takeSolution()", x.takeSolution(), NOT_POSSIBLE);
        x.search(3, 1, 1, 1, 100);
        b.due("search(3, 1, 1, 1, 100); takeSolution()", x.takeSolution(), 1);
    }

    private void firstErrorOfChanges() {
        b.due("put(6, 0)", States.worked().put(6, 0), BAD_VALUE);
        b.due("put(0, 8)", States.worked().put(0, 8), BAD_VALUE);
        // Bit 64 of a long is its bit 0, which block 0 has.
        b.due("put(0, 64)", States.worked().put(0, 64), BAD_VALUE);
        b.due("take(6, 2)", States.worked().take(6, 2), BAD_VALUE);
        b.due("take(1, 8)", States.worked().take(1, 8), BAD_VALUE);
        b.due("exchange(6, 2, 2)", States.worked().exchange(6, 2, 2), BAD_VALUE);
        b.due("exchange(0, 2, 8)", States.worked().exchange(0, 2, 8), BAD_VALUE);
        b.due("exchange(0, 8, 1)", States.worked().exchange(0, 8, 1), BAD_VALUE);
        b.due("exchange(0, -1, -1)", States.worked().exchange(0, -1, -1), BAD_VALUE);
    }

    private void firstErrorOfSlots() {
        for (int slot : new int[] {-1, 2}) {
            b.due("isEquivalent(" + slot + ")", States.fresh().isEquivalent(slot), BAD_VALUE);
            b.due("restore(" + slot + ")", States.fresh().restore(slot), BAD_VALUE);
        }
    }

    private void firstErrorOfSearch() {
        b.due("search(1, 1, 1, 1, 1)", States.group(26, 1).search(1, 1, 1, 1, 1), BAD_VALUE);
        b.due("search(2, 10, 1, 1, 1)", States.group(26, 1).search(2, 10, 1, 1, 1), BAD_VALUE);
        b.due("search(2, 1, 5, 1, 1)", States.group(26, 1).search(2, 1, 5, 1, 1), BAD_VALUE);
        b.due("search(2, 1, 1, 26, 1)", States.group(26, 1).search(2, 1, 1, 26, 1), BAD_VALUE);
        b.due("search(2, 1, 1, 13, 1)", States.group(26, 1).search(2, 1, 1, 13, 1), BAD_VALUE);
        b.due("search(2, 1, 1, 1, 5001)", States.group(26, 1).search(2, 1, 1, 1, 5001), BAD_VALUE);
        b.due("search(2, 1, 1, 1, 1)", States.group(26, 1).search(2, 1, 1, 1, 1), NOT_POSSIBLE);
    }

    private void firstErrorOfAppend() {
        b.due("append(31)", States.full().append(31), BAD_VALUE);
        b.due("append(127)", States.full().append(127), BAD_VALUE);
        b.due("append(32)", States.full().append(32), FULL);
        b.due("append(126)", States.full().append(126), FULL);
    }

    /** A call that is out of range in each of the states. */
    private void bad(String call, Boundaries.Call made) {
        for (Boundaries.Start start : States.all()) {
            b.refused(start, call, BAD_VALUE, made);
        }
    }

    private void refusedGroupCalls() {
        bad("setGroup(1, 1)", x -> x.setGroup(1, 1));
        bad("setGroup(2, 0)", x -> x.setGroup(2, 0));
        bad("setGroup(41, 1)", x -> x.setGroup(41, 1));
        bad("sum(-1, 0)", x -> x.sum(-1, 0));
        bad("multiple(0, 1001)", x -> x.multiple(0, 1001));
        bad("orderOf(40)", x -> x.orderOf(40));
        bad("image(-1, 0)", x -> x.image(-1, 0));
        bad("setHole(0, 40)", x -> x.setHole(0, 40));
        bad("setHole(-1, 0)", x -> x.setHole(-1, 0));
    }

    private void refusedBlockCalls() {
        bad("put(6, 0)", x -> x.put(6, 0));
        bad("take(-1, 0)", x -> x.take(-1, 0));
        bad("shift(0, 40)", x -> x.shift(0, 40));
        bad("apply(480)", x -> x.apply(480));
        bad("multiply(1001)", x -> x.multiply(1001));
        bad("exchange(0, 0, 40)", x -> x.exchange(0, 0, 40));
        bad("improve(21)", x -> x.improve(21));
        bad("block(6)", x -> x.block(6));
        bad("normal(-1)", x -> x.normal(-1));
        bad("stabilizer(6)", x -> x.stabilizer(6));
    }

    private void refusedFamilyCalls() {
        bad("count(0)", x -> x.count(0));
        bad("deficiency(21)", x -> x.deficiency(21));
        bad("isMultiplier(0)", x -> x.isMultiplier(0));
        bad("canonical(-1)", x -> x.canonical(-1));
        bad("isEquivalent(2)", x -> x.isEquivalent(2));
    }

    private void refusedDesignCalls() {
        bad("designBlock(240)", x -> x.designBlock(240));
        bad("replication(40)", x -> x.replication(40));
        bad("pairs(1, 1)", x -> x.pairs(1, 1));
        bad("intersections(41)", x -> x.intersections(41));
        bad("rank(4)", x -> x.rank(4));
    }

    private void refusedSearchTextAndSlotCalls() {
        bad("search(6, 1, 1, 1, 1)", x -> x.search(6, 1, 1, 1, 1));
        bad("search(3, 1, 1, 1, 0)", x -> x.search(3, 1, 1, 1, 0));
        bad("append(31)", x -> x.append(31));
        bad("append(127)", x -> x.append(127));
        bad("keep(2)", x -> x.keep(2));
        bad("keep(-1)", x -> x.keep(-1));
        bad("restore(2)", x -> x.restore(2));
        bad("restore(-1)", x -> x.restore(-1));
    }

    private void noneIsNoError() {
        b.due("NONE", NONE, -4);
        b.due("BAD_VALUE", BAD_VALUE, -1);
        b.due("FULL", FULL, -2);
        b.due("NOT_POSSIBLE", NOT_POSSIBLE, -3);
        b.due("normal(0) of an empty block", States.fresh().normal(0), NONE);
    }

    private void errorsBeforeNone() {
        b.due("normal(6) without blocks", States.fresh().normal(6), BAD_VALUE);
        b.due("stabilizer(-1) without blocks", States.fresh().stabilizer(-1), BAD_VALUE);
        b.due("canonical(-1) without blocks", States.fresh().canonical(-1), BAD_VALUE);
        b.due("improve(0) without blocks", States.fresh().improve(0), BAD_VALUE);
        b.due("improve(21) without blocks", States.fresh().improve(21), BAD_VALUE);
        b.due("normal(0)", States.fresh().normal(0), NONE);
        b.due("canonical(0)", States.fresh().canonical(0), NONE);
        b.due("improve(1)", States.fresh().improve(1), NONE);
    }
}
