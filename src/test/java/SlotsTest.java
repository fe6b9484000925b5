/** Promises 48 to 50: slots and checksum. */
public final class SlotsTest {
    private static final Check CHECK = new Check("SlotsTest");
    private static final int BAD_VALUE = DifferenceFamilies.BAD_VALUE;
    private static final int NOT_POSSIBLE = DifferenceFamilies.NOT_POSSIBLE;

    public static void main(String[] args) {
        slots();
        slotsAreNoHistory();
        checksumOfNewObject();
        checksumOfFamily();
        CHECK.end();
    }

    private static void slots() {
        DifferenceFamilies x = new DifferenceFamilies();
        x.setGroup(8, 1);
        CHECK.due(48, "keep(2)", x.keep(2), BAD_VALUE);
        CHECK.due(48, "keep(-1)", x.keep(-1), BAD_VALUE);
        CHECK.due(49, "restore(2)", x.restore(2), BAD_VALUE);
        CHECK.due(49, "restore(-1)", x.restore(-1), BAD_VALUE);
        CHECK.due(49, "restore(0)", x.restore(0), NOT_POSSIBLE);
        CHECK.due(48, "keep(0)", x.keep(0), 0);
        CHECK.due(49, "restore(1)", x.restore(1), NOT_POSSIBLE);
        x.setHole(4, 0);
        Check.putAll(x, 0, 1, 2);
        Check.putAll(x, 5, 7);
        CHECK.due(48, "keep(1)", x.keep(1), 2);
        x.put(0, 3);
        x.put(1, 3);
        x.setHole(2, 0);
        CHECK.due(49, "restore(1)", x.restore(1), 2);
        CHECK.due(49, "block(0)", x.block(0), 6);
        CHECK.due(49, "block(1)", x.block(1), 0);
        CHECK.due(49, "block(5)", x.block(5), 128);
        CHECK.due(49, "hole()", x.hole(), Check.set(0, 4));
        CHECK.due(49, "restore(0)", x.restore(0), 0);
        CHECK.due(49, "hole()", x.hole(), 1);
        CHECK.due(49, "block(0)", x.block(0), 0);
        // The slot keeps what it has, also when the blocks are changed behind a restore().
        x.put(0, 0);
        CHECK.due(49, "restore(1)", x.restore(1), 2);
        x.put(0, 0);
        CHECK.due(49, "restore(1)", x.restore(1), 2);
        CHECK.due(49, "block(0)", x.block(0), 6);
        CHECK.due(48, "keep(0)", x.keep(0), 2);
        CHECK.due(48, "keep(1)", x.keep(1), 2);
    }

    private static void slotsAreNoHistory() {
        DifferenceFamilies x = new DifferenceFamilies();
        x.put(0, 1);
        x.keep(0);
        x.put(0, 2);
        CHECK.due(18, "undo()", x.undo(), 1);
        CHECK.due(49, "restore(0)", x.restore(0), 1);
        CHECK.due(18, "undo()", x.undo(), NOT_POSSIBLE);
        x.put(0, 2);
        CHECK.due(49, "restore(1)", x.restore(1), NOT_POSSIBLE);
        CHECK.due(49, "restore(2)", x.restore(2), BAD_VALUE);
        CHECK.due(18, "undo()", x.undo(), 0);
    }

    private static long checksum(long... values) {
        long h = 23;
        for (long value : values) {
            h = 31 * h + value;
        }
        return h;
    }

    private static void checksumOfNewObject() {
        DifferenceFamilies x = new DifferenceFamilies();
        long due = checksum(7, 6, 1, 0, 0, 0, 0, 0, 0, 0, 0, 0, 0, 0, 0, 126, 6, 0, 0);
        CHECK.due(50, "checksum()", x.checksum(), due);
    }

    private static void checksumOfFamily() {
        DifferenceFamilies x = new DifferenceFamilies();
        x.setHole(1, 0);
        Check.putAll(x, 2, 0, 2, 3);
        Check.putAll(x, 5, 6);
        long due = checksum(7, 6, 127, 0, 0, 13, 0, 0, 64, 1, 1, 1, 1, 1, 1, 22, 3, 1, 11, 14, 7);
        CHECK.due(50, "checksum()", x.checksum(), due);
        CHECK.due(50, "checksum()", x.checksum(), due);
        CHECK.due(19, "block(2)", x.block(2), 13);
        x.setGroup(3, 1);
        x.put(0, 2);
        CHECK.due(50, "checksum()", x.checksum(), checksum(3, 2, 1, 4, 0, 0, 0, 0, 0, 0, 0, 6, 2, 1, 3, 3));
    }
}
