import java.util.ArrayList;
import java.util.List;

/** Objects in states from which boundaries are tested, and all that can be seen of an object's state. */
final class States {
    /** A text of 160 characters without a fault in the cyclic group of order 40: six blocks. */
    static final String FULL_TEXT = "10,11,12,13,14,15,16,17,18,19,20,21,22,23,24,25,26,27,28,29,30,31,32,33,34,35,36,"
            + "37,38,39,0,1,2,3;0,1,2,3,4;1,0;2;3;0,1,2,3,4,5,6,7,8,9,10,11,12,13,14,15,16,17;";

    private States() {
    }

    static DifferenceFamilies fresh() {
        return new DifferenceFamilies();
    }

    static DifferenceFamilies group(int n, int m) {
        DifferenceFamilies x = new DifferenceFamilies();
        x.setGroup(n, m);
        return x;
    }

    /** A new object with a group and a block 0. */
    static DifferenceFamilies family(int n, int m, int... elements) {
        DifferenceFamilies x = group(n, m);
        Check.putAll(x, 0, elements);
        return x;
    }

    /**
     * Everything is in use: a group of order 8 with the hole of 0 and 4; the blocks 0 (0, 1, 3), 2 (5, 6) and 5 (7);
     * 5 states in the history; a search with two solutions; a text of two blocks; slots with different contents.
     */
    static DifferenceFamilies worked() {
        DifferenceFamilies x = fresh();
        work(x);
        return x;
    }

    /** Brings an object without a text into the state of worked(), whatever has been done with it. */
    static void work(DifferenceFamilies x) {
        x.setGroup(8, 1);
        x.setHole(2, 0);
        x.put(5, 7);
        x.keep(1);
        x.setHole(4, 0);
        x.search(3, 1, 1, 1, 5000);
        Check.putAll(x, 0, 0, 1, 3);
        x.keep(0);
        Check.putAll(x, 2, 6, 5);
        Check.appendAll(x, "1,2;3;");
    }

    /** A group of two factors with the hole of 0, 1 and 2, three blocks, a history of 3 states, a text, and slot 0. */
    static DifferenceFamilies workedPairs() {
        DifferenceFamilies x = group(3, 3);
        x.search(2, 1, 4, 1, 5000);
        x.setHole(1, 0);
        x.put(0, 8);
        x.put(1, 4);
        x.keep(0);
        x.put(4, 3);
        Check.appendAll(x, "2.2,0.1;1.0;");
        return x;
    }

    /** The greatest group, with six blocks, a history of 5 states, a text of 160 characters, and both slots in use. */
    static DifferenceFamilies full() {
        DifferenceFamilies x = group(40, 1);
        for (int block = 0; block < 6; block++) {
            Check.putAll(x, block, block, 39);
        }
        x.keep(0);
        x.keep(1);
        Check.appendAll(x, FULL_TEXT);
        return x;
    }

    static List<Boundaries.Start> all() {
        return List.of(States::fresh, States::worked, States::workedPairs, States::full);
    }

    /** All that an object answers, first without changes, then by going back, taking, reading and restoring. */
    static List<String> lastAnswers(DifferenceFamilies x) {
        List<String> answers = new ArrayList<>();
        add(answers, "order()", x.order());
        add(answers, "automorphisms()", x.automorphisms());
        add(answers, "checksum()", x.checksum());
        add(answers, "searchSteps()", x.searchSteps());
        add(answers, "candidates()", x.candidates());
        add(answers, "faultPosition()", x.faultPosition());
        add(answers, "isEquivalent(0)", x.isEquivalent(0));
        add(answers, "isEquivalent(1)", x.isEquivalent(1));
        addBlocks(answers, x);
        for (int state = 0; state < 6; state++) {
            add(answers, "undo()", x.undo());
            addBlocks(answers, x);
        }
        add(answers, "takeSolution()", x.takeSolution());
        addBlocks(answers, x);
        add(answers, "read()", x.read());
        addBlocks(answers, x);
        for (int slot = 0; slot < 2; slot++) {
            add(answers, "restore(" + slot + ")", x.restore(slot));
            addBlocks(answers, x);
        }
        add(answers, "clearText()", x.clearText());
        return answers;
    }

    private static void add(List<String> answers, String call, long answer) {
        answers.add(call + " is " + answer);
    }

    private static void addBlocks(List<String> answers, DifferenceFamilies x) {
        add(answers, "hole()", x.hole());
        for (int block = 0; block < 6; block++) {
            add(answers, "block(" + block + ")", x.block(block));
        }
    }
}
