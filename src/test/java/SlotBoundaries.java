import java.math.BigInteger;
import java.util.ArrayList;
import java.util.List;

/** Promises 48 to 50. */
final class SlotBoundaries {
    private static final int BAD_VALUE = DifferenceFamilies.BAD_VALUE;
    private static final int NOT_POSSIBLE = DifferenceFamilies.NOT_POSSIBLE;
    private static final int NONE = DifferenceFamilies.NONE;

    private final Boundaries b;

    SlotBoundaries(Boundaries b) {
        this.b = b;
    }

    void run() {
        keeps();
        restores();
        checksums();
    }

    private void keeps() {
        b.test(48, "Keeps the base blocks and the hole, in place of what the slot keeps", this::inPlaceOfWhatWasKept);
        b.test(48, "slot: 0 or 1", () -> b.range(States::worked, "keep(?)", 0, 3, 1, 3, (x, slot) -> x.keep(slot)));
        b.test(48, "Returns the number of base blocks that are not empty", this::fewestAndMostKept);
        b.test(48, "BAD_VALUE", this::badKeeps);
    }

    private void inPlaceOfWhatWasKept() {
        DifferenceFamilies x = States.worked();
        x.keep(1);
        x.setGroup(40, 1);
        b.due("setGroup(40, 1); restore(1)", x.restore(1), NOT_POSSIBLE);
        x.put(5, 39);
        x.setHole(20, 0);
        x.keep(1);
        x.take(5, 39);
        x.setHole(1, 0);
        b.due("restore(1)", x.restore(1), 1);
        b.blocks("restore(1)", x, 0, 0, 0, 0, 0, 1L << 39);
        b.due("hole()", x.hole(), 1 | 1L << 20);
        // A family without blocks takes the place of one with blocks.
        x.take(5, 39);
        x.setHole(0, 0);
        x.keep(1);
        x.put(0, 0);
        b.due("keep(1) of no blocks; restore(1)", x.restore(1), 0);
        b.blocks("restore(1)", x);
        b.due("hole()", x.hole(), 1);
        // The other slot has stayed empty.
        b.due("restore(0)", x.restore(0), NOT_POSSIBLE);
    }

    private void fewestAndMostKept() {
        b.due("keep(0) of no blocks", States.fresh().keep(0), 0);
        b.due("keep(1) of one block", States.family(7, 1, 0).keep(1), 1);
        b.due("keep(0) of six blocks", States.full().keep(0), 6);
        b.due("keep(1) of six blocks", States.full().keep(1), 6);
    }

    private void badKeeps() {
        b.refused(States::fresh, "keep(2)", BAD_VALUE, x -> x.keep(2));
        b.refused(States::fresh, "keep(-1)", BAD_VALUE, x -> x.keep(-1));
        b.refused(States::full, "keep(2)", BAD_VALUE, x -> x.keep(2));
    }

    private void restores() {
        b.test(49, "Makes the base blocks and the hole as they were kept", this::asTheyWereKept);
        b.test(49, "The slot keeps them", this::slotKeepsThem);
        b.test(49, "slot: 0 or 1",
                () -> b.range(States::worked, "restore(?)", 0, 2, 1, 1, (x, slot) -> x.restore(slot)));
        b.test(49, "Returns the number of base blocks that are not empty then", this::fewestAndMostRestored);
        b.test(49, "BAD_VALUE", this::badRestores);
        b.test(49, "NOT_POSSIBLE if the slot keeps nothing", this::emptySlots);
    }

    private void asTheyWereKept() {
        DifferenceFamilies x = States.worked();
        x.restore(1);
        b.blocks("restore(1)", x, 0, 0, 0, 0, 0, 128);
        b.due("restore(1); hole()", x.hole(), Check.set(0, 2, 4, 6));
        x.restore(0);
        b.blocks("restore(0)", x, 11, 0, 0, 0, 0, 128);
        b.due("restore(0); hole()", x.hole(), Check.set(0, 4));
        // What is not kept stays: the text and the search.
        b.due("clearText()", x.clearText(), 6);
        b.due("takeSolution()", x.takeSolution(), 1);
    }

    private void slotKeepsThem() {
        DifferenceFamilies x = States.worked();
        for (int round = 0; round < 3; round++) {
            b.due("restore(0)", x.restore(0), 2);
            b.blocks("restore(0)", x, 11, 0, 0, 0, 0, 128);
            // Changes behind restore() do not reach into the slot.
            x.put(0, 7);
            x.take(5, 7);
            x.setHole(1, 0);
        }
        b.due("restore(0); isEquivalent(0)", x.restore(0) == 2 ? x.isEquivalent(0) : NONE, 1);
    }

    private void fewestAndMostRestored() {
        DifferenceFamilies x = States.fresh();
        x.keep(0);
        x.put(0, 0);
        b.due("restore(0) of no blocks", x.restore(0), 0);
        DifferenceFamilies y = States.full();
        y.clearText();
        y.read();
        b.due("restore(1) of six blocks", y.restore(1), 6);
    }

    private void badRestores() {
        b.refused(States::fresh, "restore(2)", BAD_VALUE, x -> x.restore(2));
        b.refused(States::fresh, "restore(-1)", BAD_VALUE, x -> x.restore(-1));
        b.refused(States::full, "restore(2)", BAD_VALUE, x -> x.restore(2));
    }

    private void emptySlots() {
        b.refused(States::fresh, "restore(0)", NOT_POSSIBLE, x -> x.restore(0));
        b.refused(States::fresh, "restore(1)", NOT_POSSIBLE, x -> x.restore(1));
        b.refused(States::workedPairs, "restore(1)", NOT_POSSIBLE, x -> x.restore(1));
        b.refused(() -> {
            DifferenceFamilies x = States.worked();
            x.setGroup(8, 1);
            x.put(0, 0);
            return x;
        }, "setGroup(8, 1); put(0, 0); restore(1)", NOT_POSSIBLE, x -> x.restore(1));
    }

    private void checksums() {
        b.test(50, "Computes a checksum", this::nothingIsChanged);
        b.test(50, "It starts with h = 23", () -> checksum(States.group(2, 1), 2, 1, 1, 0, 0, 0, 0, 0, 0, 0, 2, 1, 0, 0));
        b.test(50, "h becomes 31 * h + value (as longs, with overflow)", this::overflow);
        b.test(50, "order(), automorphisms(), hole()", this::groupAndHole);
        b.test(50, "block() of all base blocks", this::sixBlocks);
        b.test(50, "count() of all elements other than 0", this::allCounts);
        b.test(50, "canonical() for 0, 1, .. up to the end of the canonical form", this::canonicalForms);
        b.test(50, "designBlocks()", this::shortDesign);
        b.test(50, "rank(2)", this::ranks);
        b.test(50, "Returns the checksum", this::asTheOtherCallsSay);
    }

    private void checksum(DifferenceFamilies x, long... values) {
        long h = 23;
        for (long value : values) {
            h = 31 * h + value;
        }
        b.due("checksum()", x.checksum(), h);
    }

    private void nothingIsChanged() {
        DifferenceFamilies x = States.worked();
        long first = x.checksum();
        b.due("checksum() again", x.checksum(), first);
        b.refused(States::worked, "checksum()", first, y -> y.checksum());
        // It is of this object's state alone.
        b.due("checksum() of another one", States.worked().checksum(), first);
    }

    private static List<Long> values(DifferenceFamilies x) {
        List<Long> values = new ArrayList<>(List.of((long) x.order(), (long) x.automorphisms(), x.hole()));
        for (int block = 0; block < 6; block++) {
            values.add(x.block(block));
        }
        for (int d = 1; d < x.order(); d++) {
            values.add((long) x.count(d));
        }
        values.add(x.multipliers());
        values.add((long) x.symmetries());
        for (int place = 0; x.canonical(place) != NONE; place++) {
            values.add(x.canonical(place));
        }
        values.add((long) x.designBlocks());
        values.add((long) x.rank(2));
        return values;
    }

    private void overflow() {
        DifferenceFamilies x = States.full();
        BigInteger h = BigInteger.valueOf(23);
        for (long value : values(x)) {
            h = h.multiply(BigInteger.valueOf(31)).add(BigInteger.valueOf(value));
        }
        b.holds("the sum needs more than 64 bits", h.bitLength() > 64);
        b.due("checksum()", x.checksum(), h.longValue());
    }

    private void groupAndHole() {
        checksum(States.fresh(), 7, 6, 1, 0, 0, 0, 0, 0, 0, 0, 0, 0, 0, 0, 0, 126, 6, 0, 0);
        DifferenceFamilies x = States.fresh();
        x.setHole(1, 0);
        checksum(x, 7, 6, 127, 0, 0, 0, 0, 0, 0, 0, 0, 0, 0, 0, 0, 126, 6, 0, 0);
        checksum(States.group(2, 2), 4, 6, 1, 0, 0, 0, 0, 0, 0, 0, 0, 0, 10, 6, 0, 0);
    }

    private void sixBlocks() {
        DifferenceFamilies x = States.group(2, 1);
        for (int block = 0; block < 6; block++) {
            x.put(block, block % 2);
        }
        checksum(x, 2, 1, 1, 1, 2, 1, 2, 1, 2, 0, 2, 1, 1, 1, 1, 1, 1, 1, 12, 2);
    }

    private void allCounts() {
        checksum(States.family(2, 1, 0, 1), 2, 1, 1, 3, 0, 0, 0, 0, 0, 2, 2, 1, 3, 1, 1);
        checksum(States.family(4, 1, 0, 1), 4, 2, 1, 3, 0, 0, 0, 0, 0, 1, 0, 1, 10, 2, 3, 4, 3);
    }

    private void canonicalForms() {
        DifferenceFamilies x = States.group(3, 1);
        x.put(4, 2);
        Check.putAll(x, 1, 0, 2);
        checksum(x, 3, 2, 1, 0, 5, 0, 0, 4, 0, 1, 1, 6, 2, 1, 3, 6, 3);
    }

    private void shortDesign() {
        checksum(States.family(3, 1, 0, 1, 2), 3, 2, 1, 7, 0, 0, 0, 0, 0, 3, 3, 6, 2, 7, 1, 1);
    }

    private void ranks() {
        // The rank of the pairs is 2 modulo 2, and 3 modulo 3.
        checksum(States.family(3, 1, 0, 1), 3, 2, 1, 3, 0, 0, 0, 0, 0, 1, 1, 6, 2, 3, 3, 2);
    }

    private void asTheOtherCallsSay() {
        for (Boundaries.Start start : States.all()) {
            List<Long> values = values(start.make());
            checksum(start.make(), values.stream().mapToLong(value -> value).toArray());
        }
        b.due("{0, 1, 3} in 7: checksum()", States.family(7, 1, 0, 1, 3).checksum(), chainOfTheDocument());
    }

    private static long chainOfTheDocument() {
        long h = 23;
        for (long value : new long[] {7, 6, 1, 11, 0, 0, 0, 0, 0, 1, 1, 1, 1, 1, 1, 22, 3, 11, 7, 4}) {
            h = 31 * h + value;
        }
        return h;
    }
}
