import java.util.List;

/** 'Changes', and promises 16 to 18. */
final class ChangeBoundaries {
    private static final int BAD_VALUE = DifferenceFamilies.BAD_VALUE;
    private static final int NOT_POSSIBLE = DifferenceFamilies.NOT_POSSIBLE;
    private static final int NONE = DifferenceFamilies.NONE;

    private final Boundaries b;

    ChangeBoundaries(Boundaries b) {
        this.b = b;
    }

    void run() {
        exchanges();
        improvements();
        changes();
        undos();
    }

    private void exchanges() {
        b.test(16, "Exchanges an element of a base block for another element", this::exchangedBlocks);
        b.test(16, "block: a base block, 0 to 5", () -> b.range(() -> {
            DifferenceFamilies x = States.worked();
            x.put(5, 3);
            return x;
        }, "exchange(?, 3, 2)", 0, 8, 5, 4, (x, block) -> x.exchange(block, 3, 2)));
        b.test(16, "x: an element of it", () -> b.range(() -> {
            DifferenceFamilies x = States.worked();
            Check.putAll(x, 1, 0, 7);
            return x;
        }, "exchange(1, ?, 3)", 0, 4, 7, 4, (x, e) -> x.exchange(1, e, 3)));
        b.test(16, "y: an element that is not in it",
                () -> b.range(States::worked, "exchange(2, 5, ?)", 0, 2, 7, 2, (x, e) -> x.exchange(2, 5, e)));
        b.test(16, "Returns the deficiency for the index 1 then", this::deficiencies);
        b.test(16, "BAD_VALUE", this::badExchanges);
        b.test(16, "NOT_POSSIBLE if the block does not contain x, or contains y", this::impossibleExchanges);
    }

    private void exchangedBlocks() {
        DifferenceFamilies x = States.worked();
        x.exchange(0, 0, 7);
        b.blocks("exchange(0, 0, 7)", x, Check.set(1, 3, 7), 0, 96, 0, 0, 128);
        x.exchange(5, 7, 0);
        b.blocks("exchange(5, 7, 0)", x, Check.set(1, 3, 7), 0, 96, 0, 0, 1);
        DifferenceFamilies y = States.full();
        y.exchange(5, 39, 38);
        b.due("exchange(5, 39, 38); block(5)", y.block(5), 32 | 1L << 38);
    }

    private void deficiencies() {
        b.due("{0, 1, 2}: exchange(0, 2, 3)", States.family(7, 1, 0, 1, 2).exchange(0, 2, 3), 0);
        b.due("{3}: exchange(0, 3, 0)", States.family(7, 1, 3).exchange(0, 3, 0), 6);
        // In the hole of 0 and 3, the count 2 of 3 is too much, and four elements lack one each.
        DifferenceFamilies x = States.family(6, 1, 0, 1);
        x.setHole(3, 0);
        b.due("hole of 0 and 3, {0, 1}: exchange(0, 1, 3)", x.exchange(0, 1, 3), 6);
        b.due("deficiency(1)", x.deficiency(1), 6);
        // The whole group as hole: the counts alone.
        x.setHole(1, 0);
        b.due("whole hole, {0, 3}: exchange(0, 3, 1)", x.exchange(0, 3, 1), 2);
    }

    private void badExchanges() {
        b.refused(States::worked, "exchange(6, 0, 2)", BAD_VALUE, x -> x.exchange(6, 0, 2));
        b.refused(States::worked, "exchange(0, 0, 8)", BAD_VALUE, x -> x.exchange(0, 0, 8));
        b.refused(States::worked, "exchange(0, 8, 2)", BAD_VALUE, x -> x.exchange(0, 8, 2));
        b.refused(States::worked, "exchange(0, 2, 8)", BAD_VALUE, x -> x.exchange(0, 2, 8));
        b.refused(States::worked, "exchange(0, 8, 0)", BAD_VALUE, x -> x.exchange(0, 8, 0));
        b.refused(States::worked, "exchange(6, 8, 8)", BAD_VALUE, x -> x.exchange(6, 8, 8));
    }

    private void impossibleExchanges() {
        b.refused(States::worked, "exchange(0, 2, 4)", NOT_POSSIBLE, x -> x.exchange(0, 2, 4));
        b.refused(States::worked, "exchange(0, 0, 1)", NOT_POSSIBLE, x -> x.exchange(0, 0, 1));
        b.refused(States::worked, "exchange(0, 2, 1)", NOT_POSSIBLE, x -> x.exchange(0, 2, 1));
        b.refused(States::worked, "exchange(0, 1, 1)", NOT_POSSIBLE, x -> x.exchange(0, 1, 1));
        b.refused(States::worked, "exchange(0, 2, 2)", NOT_POSSIBLE, x -> x.exchange(0, 2, 2));
        b.refused(States::worked, "exchange(1, 0, 2)", NOT_POSSIBLE, x -> x.exchange(1, 0, 2));
        // There is no element that is not in the whole block.
        b.refused(() -> States.family(2, 1, 0, 1), "exchange(0, 0, 1)", NOT_POSSIBLE, x -> x.exchange(0, 0, 1));
    }

    /** The difference of the block 0 and 3 lies in the hole: each exchange is better, for each index. */
    private static DifferenceFamilies improvable() {
        DifferenceFamilies x = States.family(6, 1, 0, 3);
        x.setHole(3, 0);
        return x;
    }

    private void improvements() {
        b.test(17, "of all exchanges of an element x of a base block for an element y that is not in it",
                this::allExchanges);
        b.test(17, "the one after which the deficiency is smallest", this::smallestDeficiency);
        b.test(17, "of several the one with the lowest block, then the lowest x, then the lowest y", this::lowestOnes);
        b.test(17, "but only if the deficiency becomes smaller by it", this::onlyIfSmaller);
        b.test(17, "index: the index for which the deficiency counts, 1 to 20",
                () -> b.range(ChangeBoundaries::improvable, "improve(?)", 1, 2, 20, 78, (x, i) -> x.improve(i)));
        b.test(17, "Returns the deficiency then", this::deficiencyThen);
        b.test(17, "BAD_VALUE", this::badImprovements);
        b.test(17, "NONE if no exchange makes it smaller", this::noImprovement);
    }

    /** The families for which all exchanges are made one by one. */
    private static List<Boundaries.Start> families() {
        return List.of(States::fresh, States::worked, States::workedPairs,
                // The best y is 0, the best y is the last element, the best x is 0.
                () -> States.family(7, 1, 3, 4, 5),
                () -> States.family(13, 1, 5, 6, 7, 8),
                () -> States.family(13, 1, 12, 0, 1, 2),
                () -> States.family(2, 4, 0, 1, 2, 6),
                () -> States.family(4, 2, 0, 1, 2, 7),
                () -> States.family(3, 3, 0, 1, 2),
                () -> States.family(3, 4, 5, 6, 7, 11),
                () -> {
                    DifferenceFamilies x = States.family(4, 3, 9, 10, 11);
                    Check.putAll(x, 3, 0, 6, 8);
                    Check.putAll(x, 5, 1, 4, 7, 10);
                    x.setHole(6, 0);
                    return x;
                });
    }

    private void allExchanges() {
        for (Boundaries.Start start : families()) {
            for (int index = 1; index <= 4; index++) {
                improveByTrying(start, index);
            }
        }
    }

    private void improveByTrying(Boundaries.Start start, int index) {
        int order = start.make().order();
        int least = start.make().deficiency(index);
        DifferenceFamilies best = null;
        for (int block = 0; block < 6; block++) {
            for (int e = 0; e < order; e++) {
                for (int f = 0; f < order; f++) {
                    DifferenceFamilies x = start.make();
                    if (x.exchange(block, e, f) >= 0 && x.deficiency(index) < least) {
                        least = x.deficiency(index);
                        best = x;
                    }
                }
            }
        }
        DifferenceFamilies improved = start.make();
        b.due("improve(" + index + ")", improved.improve(index), best == null ? NONE : least);
        DifferenceFamilies due = best == null ? start.make() : best;
        for (int block = 0; block < 6; block++) {
            b.due("improve(" + index + "); block(" + block + ")", improved.block(block), due.block(block));
        }
    }

    private void smallestDeficiency() {
        // {1, 2, 3, 5} is better too and comes first, but only {0, 2, 3, 7} and others behind it have all differences.
        DifferenceFamilies x = States.family(13, 1, 0, 1, 2, 3);
        b.due("deficiency(1)", x.deficiency(1), 12);
        b.due("improve(1)", x.improve(1), 0);
        b.blocks("improve(1)", x, Check.set(0, 2, 3, 7));
        // A block of one element has no differences: the last block is the one that can become better.
        DifferenceFamilies y = States.family(13, 1, 5);
        Check.putAll(y, 5, 0, 1, 2, 3);
        b.due("improve(1)", y.improve(1), 0);
        b.blocks("improve(1)", y, 32, 0, 0, 0, 0, Check.set(0, 2, 3, 7));
    }

    private void lowestOnes() {
        // Each of 0, 1 and 2 can be exchanged for elements by which the deficiency becomes 0; 0 for 4 or 6.
        DifferenceFamilies x = States.family(7, 1, 0, 1, 2);
        Check.putAll(x, 5, 0, 1, 2);
        b.due("improve(2)", x.improve(2), 4);
        b.blocks("improve(2)", x, Check.set(1, 2, 4), 0, 0, 0, 0, 7);
        b.due("improve(2)", x.improve(2), 0);
        b.blocks("improve(2)", x, Check.set(1, 2, 4), 0, 0, 0, 0, Check.set(1, 2, 4));
        DifferenceFamilies y = improvable();
        // 0 for 1 leaves 1 and 3; 0 for 2 and 3 for 1 are as good.
        y.improve(1);
        b.blocks("improve(1)", y, Check.set(1, 3));
    }

    private void onlyIfSmaller() {
        // All exchanges leave the deficiency as it is.
        b.refused(() -> States.family(7, 1, 3), "{3}: improve(1)", NONE, x -> x.improve(1));
        b.refused(() -> States.family(7, 1, 0, 1), "{0, 1}: improve(1)", NONE, x -> x.improve(1));
        // All exchanges make it greater or leave it at 0.
        b.refused(() -> States.family(7, 1, 0, 1, 3), "{0, 1, 3}: improve(1)", NONE, x -> x.improve(1));
    }

    private void deficiencyThen() {
        for (int index = 1; index <= 20; index++) {
            DifferenceFamilies x = improvable();
            // 1, 2, 4 and 5 have the counts 0, 1, 1 and 0 then.
            int due = 4 * index - 2;
            b.due("improve(" + index + ")", x.improve(index), due);
            b.due("deficiency(" + index + ")", x.deficiency(index), due);
        }
    }

    private void badImprovements() {
        b.refused(ChangeBoundaries::improvable, "improve(0)", BAD_VALUE, x -> x.improve(0));
        b.refused(ChangeBoundaries::improvable, "improve(21)", BAD_VALUE, x -> x.improve(21));
        b.refused(States::fresh, "improve(0)", BAD_VALUE, x -> x.improve(0));
        b.refused(States::fresh, "improve(21)", BAD_VALUE, x -> x.improve(21));
    }

    private void noImprovement() {
        b.refused(States::fresh, "improve(1)", NONE, x -> x.improve(1));
        b.refused(States::fresh, "improve(20)", NONE, x -> x.improve(20));
        // A block of all elements has nothing to exchange for.
        b.refused(() -> States.family(3, 1, 0, 1, 2), "{0, 1, 2}: improve(1)", NONE, x -> x.improve(1));
        b.refused(() -> States.family(2, 1, 0), "{0}: improve(1)", NONE, x -> x.improve(1));
        // A full history keeps its oldest state.
        b.refused(() -> {
            DifferenceFamilies x = States.family(7, 1, 0, 1, 3);
            x.shift(0, 1);
            x.shift(0, 2);
            return x;
        }, "improve(1)", NONE, x -> x.improve(1));
    }

    private void changes() {
        b.test(18, "are changes of the base blocks", this::nineChanges);
        b.test(18, "if they return neither an error nor NONE", this::noChanges);
        b.test(18, "A history of at most 5 states is kept", this::oneStateForEachChange);
        b.test(18, "when there would be more than 5, the oldest one is dropped", this::oldestIsDropped);
        b.test(18, "undo() removes the latest one and restores it", this::latestIsRestored);
        b.test(18, "setGroup(), setHole() and restore() empty the history", this::historyIsEmptied);
    }

    private void isOneState(String call, Boundaries.Start start, Boundaries.Call made) {
        DifferenceFamilies x = start.make();
        long before = x.block(0);
        x.setHole(0, 0);
        made.on(x);
        b.due(call + "; undo()", x.undo(), 0);
        b.due(call + "; undo(); block(0)", x.block(0), before);
        b.due(call + "; undo(); undo()", x.undo(), NOT_POSSIBLE);
    }

    /** Each change is recorded, also where it changes no set. */
    private void nineChanges() {
        Boundaries.Start start = () -> {
            DifferenceFamilies x = States.family(7, 1, 0, 1, 2);
            x.search(3, 1, 1, 1, 100);
            return x;
        };
        isOneState("put(0, 6)", start, x -> x.put(0, 6));
        isOneState("take(0, 0)", start, x -> x.take(0, 0));
        isOneState("shift(0, 6)", start, x -> x.shift(0, 6));
        isOneState("shift(0, 0)", start, x -> x.shift(0, 0));
        isOneState("shift(1, 1)", start, x -> x.shift(1, 1));
        isOneState("apply(5)", start, x -> x.apply(5));
        isOneState("apply(0)", start, x -> x.apply(0));
        isOneState("multiply(6)", start, x -> x.multiply(6));
        isOneState("multiply(1)", start, x -> x.multiply(1));
        isOneState("exchange(0, 0, 3)", start, x -> x.exchange(0, 0, 3));
        isOneState("improve(1)", start, x -> x.improve(1));
        isOneState("read()", start, x -> x.read());
        isOneState("takeSolution()", start, x -> x.takeSolution());
        isOneState("apply(5) without blocks", States::fresh, x -> x.apply(5));
        isOneState("multiply(6) without blocks", States::fresh, x -> x.multiply(6));
        isOneState("read() without blocks and text", States::fresh, x -> x.read());
    }

    private void noChanges() {
        b.refused(States::worked, "put(0, 0)", NOT_POSSIBLE, x -> x.put(0, 0));
        b.refused(States::worked, "take(1, 0)", NOT_POSSIBLE, x -> x.take(1, 0));
        b.refused(States::worked, "shift(6, 0)", BAD_VALUE, x -> x.shift(6, 0));
        b.refused(States::worked, "apply(4)", BAD_VALUE, x -> x.apply(4));
        b.refused(States::worked, "multiply(2)", BAD_VALUE, x -> x.multiply(2));
        b.refused(States::worked, "exchange(0, 0, 1)", NOT_POSSIBLE, x -> x.exchange(0, 0, 1));
        b.refused(States::worked, "improve(21)", BAD_VALUE, x -> x.improve(21));
        b.refused(States::full, "takeSolution()", NOT_POSSIBLE, x -> x.takeSolution());
        b.refused(() -> {
            DifferenceFamilies x = States.worked();
            x.append('3');
            return x;
        }, "read()", NOT_POSSIBLE, x -> x.read());
        // Other calls are no changes either.
        DifferenceFamilies x = States.worked();
        x.keep(1);
        x.search(2, 1, 1, 1, 10);
        x.append(';');
        x.clearText();
        x.checksum();
        b.due("keep(), search(), append(), clearText(), checksum(); undo()", x.undo(), 4);
        b.blocks("undo()", x, 11, 0, 64, 0, 0, 128);
    }

    private void oneStateForEachChange() {
        for (int changes = 0; changes <= 6; changes++) {
            DifferenceFamilies x = States.fresh();
            for (int e = 0; e < changes; e++) {
                x.put(0, e);
            }
            int states = Math.min(changes, 5);
            b.due(changes + " changes; undo()", x.undo(), states == 0 ? NOT_POSSIBLE : states - 1);
        }
    }

    private void oldestIsDropped() {
        for (int changes = 5; changes <= 7; changes++) {
            DifferenceFamilies x = States.fresh();
            for (int e = 0; e < changes; e++) {
                x.put(e % 2, e);
            }
            for (int left = 4; left >= 0; left--) {
                b.due(changes + " changes; undo()", x.undo(), left);
                int before = changes - 5 + left;
                b.blocks(changes + " changes; undo()", x, putFirst(before, 0), putFirst(before, 1));
            }
            b.due(changes + " changes; undo() six times", x.undo(), NOT_POSSIBLE);
            // What the first changes put, whose states were dropped, stays.
            b.blocks(changes + " changes; undo() six times", x, putFirst(changes - 5, 0), putFirst(changes - 5, 1));
        }
    }

    /** What the first changes have put into the block 0 (even elements) or 1 (odd elements). */
    private static long putFirst(int changes, int block) {
        long set = 0;
        for (int e = block; e < changes; e += 2) {
            set |= 1L << e;
        }
        return set;
    }

    private void latestIsRestored() {
        DifferenceFamilies x = States.worked();
        long[] third = {11, 3, 1, 0};
        b.due("undo()", x.undo(), 4);
        b.blocks("undo()", x, 11, 0, 64, 0, 0, 128);
        for (int left = 3; left >= 0; left--) {
            b.due("undo()", x.undo(), left);
            b.blocks("undo()", x, third[3 - left], 0, 0, 0, 0, 128);
        }
        // A change behind undo() follows what is left.
        x.put(0, 5);
        x.put(0, 6);
        b.due("put(0, 5); put(0, 6); undo()", x.undo(), 1);
        x.put(0, 7);
        b.due("put(0, 7); undo()", x.undo(), 1);
        b.blocks("undo()", x, 32, 0, 0, 0, 0, 128);
    }

    private void historyIsEmptied() {
        DifferenceFamilies x = States.worked();
        x.setGroup(8, 1);
        b.due("setGroup(8, 1); undo()", x.undo(), NOT_POSSIBLE);
        b.blocks("setGroup(8, 1); undo()", x);
        // The same hole as before, and the same blocks as before.
        DifferenceFamilies y = States.worked();
        y.setHole(4, 0);
        b.due("setHole(4, 0); undo()", y.undo(), NOT_POSSIBLE);
        b.blocks("setHole(4, 0); undo()", y, 11, 0, 96, 0, 0, 128);
        DifferenceFamilies z = States.worked();
        z.keep(0);
        z.restore(0);
        b.due("keep(0); restore(0); undo()", z.undo(), NOT_POSSIBLE);
        b.blocks("keep(0); restore(0); undo()", z, 11, 0, 96, 0, 0, 128);
        z.put(1, 1);
        b.due("put(1, 1); undo()", z.undo(), 0);
        // If they are refused, they do not.
        DifferenceFamilies w = States.fresh();
        w.put(0, 0);
        w.setGroup(41, 1);
        w.setHole(7, 0);
        w.restore(0);
        w.restore(2);
        b.due("setGroup(41, 1); setHole(7, 0); restore(0); restore(2); undo()", w.undo(), 0);
    }

    private void undos() {
        b.test(18, "Restores the latest state of the history: all base blocks become as before the change",
                this::allBlocksAgain);
        b.test(18, "The state is removed from the history", this::removedStates);
        b.test(18, "Returns the number of states that are left in the history", this::statesLeft);
        b.test(18, "NOT_POSSIBLE if it is empty", this::emptyHistory);
    }

    private void allBlocksAgain() {
        DifferenceFamilies x = States.full();
        long[] before = new long[6];
        for (int block = 0; block < 6; block++) {
            before[block] = x.block(block);
        }
        x.read();
        b.due("read(); undo()", x.undo(), 4);
        b.blocks("read(); undo()", x, before);
        x.multiply(39);
        b.due("multiply(39); undo()", x.undo(), 4);
        b.blocks("multiply(39); undo()", x, before);
        DifferenceFamilies y = States.worked();
        y.takeSolution();
        b.due("takeSolution(); undo()", y.undo(), 4);
        b.blocks("takeSolution(); undo()", y, 11, 0, 96, 0, 0, 128);
    }

    private void removedStates() {
        DifferenceFamilies x = States.fresh();
        x.put(0, 1);
        x.put(0, 2);
        x.undo();
        b.blocks("undo()", x, 2);
        x.undo();
        b.blocks("undo(); undo()", x);
        b.due("undo(); undo(); undo()", x.undo(), NOT_POSSIBLE);
    }

    private void statesLeft() {
        DifferenceFamilies x = States.worked();
        for (int left = 4; left >= 0; left--) {
            b.due("undo()", x.undo(), left);
        }
        DifferenceFamilies y = States.fresh();
        y.put(0, 0);
        b.due("put(0, 0); undo()", y.undo(), 0);
    }

    private void emptyHistory() {
        b.refused(States::fresh, "undo()", NOT_POSSIBLE, x -> x.undo());
        b.refused(() -> {
            DifferenceFamilies x = States.worked();
            x.restore(0);
            return x;
        }, "undo()", NOT_POSSIBLE, x -> x.undo());
    }
}
