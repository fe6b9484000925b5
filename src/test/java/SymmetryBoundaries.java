import java.util.ArrayList;
import java.util.Collections;
import java.util.List;

/** 'Blocks' as far as it tells of images of families, and promises 28 to 32. */
final class SymmetryBoundaries {
    private static final int BAD_VALUE = DifferenceFamilies.BAD_VALUE;
    private static final int NOT_POSSIBLE = DifferenceFamilies.NOT_POSSIBLE;
    private static final int NONE = DifferenceFamilies.NONE;

    private final Boundaries b;

    SymmetryBoundaries(Boundaries b) {
        this.b = b;
    }

    void run() {
        images();
        multipliers();
        symmetries();
        canonicalForms();
        equivalence();
    }

    /** A new object with a group and blocks, which are put from the block 0 on. */
    private static DifferenceFamilies blocks(int n, int m, int[]... blocks) {
        DifferenceFamilies x = States.group(n, m);
        for (int block = 0; block < blocks.length; block++) {
            Check.putAll(x, block, blocks[block]);
        }
        return x;
    }

    private static int[] of(int... elements) {
        return elements;
    }

    /** The families whose images by all automorphisms are looked at one by one. */
    private static List<Boundaries.Start> families() {
        return List.of(States::fresh,
                () -> blocks(7, 1, of(0, 1, 3)),
                () -> blocks(7, 1, of(0, 2), of(0, 4), of(1, 2, 4), of(6)),
                () -> blocks(2, 1, of(1), of(0, 1)),
                () -> blocks(3, 3, of(0, 1, 5), of(2, 3), of(4), of(8, 7, 6)),
                () -> blocks(2, 4, of(0, 7), of(1, 5), of(0, 2, 3)),
                () -> blocks(4, 2, of(0, 7), of(1, 5), of(0, 2, 3), of(1, 2), of(2, 3), of(3, 4, 5, 6)),
                () -> blocks(5, 5, of(0, 1, 7, 13), of(24, 23)),
                States::full);
    }

    /** The image by an automorphism, by apply() and normal(). */
    private static List<Long> image(Boundaries.Start start, int automorphism) {
        DifferenceFamilies x = start.make();
        x.apply(automorphism);
        List<Long> image = new ArrayList<>();
        for (int block = 0; block < 6; block++) {
            if (x.block(block) != 0) {
                image.add(x.normal(block));
            }
        }
        Collections.sort(image);
        return image;
    }

    private static int compare(List<Long> one, List<Long> two) {
        for (int i = 0; i < one.size(); i++) {
            if (!one.get(i).equals(two.get(i))) {
                return one.get(i).compareTo(two.get(i));
            }
        }
        return 0;
    }

    private void images() {
        b.test(31, "in ascending order (with repetitions)", this::imagesInOrder);
        b.test(31, "Such lists are compared by their first numbers that are different", this::firstDifference);
        b.test(32, "a list comes before a longer one that begins with it", this::longerLists);
        b.test(31, "The canonical form of the family is the first one of its images by all automorphisms",
                this::firstImages);
        b.test(30, "A symmetry of the family is an automorphism by which its image is the same as by the identity",
                this::sameImages);
        b.test(28, "A multiplier of the family is a number t from 1 to v - 1 that has no common divisor with v except 1",
                this::sameMultiples);
    }

    private void canonical(DifferenceFamilies x, long... due) {
        for (int place = 0; place < due.length; place++) {
            b.due("canonical(" + place + ")", x.canonical(place), due[place]);
        }
        b.due("canonical(" + due.length + ")", x.canonical(due.length), NONE);
    }

    private void imagesInOrder() {
        canonical(blocks(7, 1, of(2, 4, 5), of(6), of(0, 2, 3)), 1, 11, 11);
        canonical(blocks(7, 1, of(0, 1), of(1, 2), of(2, 3), of(3, 4), of(4, 5), of(6, 0)), 3, 3, 3, 3, 3, 3);
    }

    private void firstDifference() {
        // Pairs of the differences 1, 2 and 3 have the normal forms 3, 5 and 9, which are changed in a ring.
        canonical(blocks(7, 1, of(0, 2), of(0, 4)), 3, 5);
        canonical(blocks(7, 1, of(0, 2), of(0, 2), of(0, 3)), 3, 3, 5);
        // By 1, 2 and 3: 3 5 9 9, 3 3 5 9 and 3 5 5 9
        canonical(blocks(7, 1, of(0, 1), of(0, 2), of(0, 3), of(1, 4)), 3, 3, 5, 9);
    }

    private void longerLists() {
        DifferenceFamilies x = blocks(7, 1, of(0, 1, 3));
        x.keep(0);
        Check.putAll(x, 1, 0, 1, 3);
        b.due("11 and 11 11: isEquivalent(0)", x.isEquivalent(0), 0);
        x.keep(1);
        x.restore(0);
        b.due("11 11 and 11: isEquivalent(1)", x.isEquivalent(1), 0);
        DifferenceFamilies y = States.fresh();
        y.keep(0);
        y.put(0, 0);
        b.due("1 and nothing: isEquivalent(0)", y.isEquivalent(0), 0);
        y.keep(1);
        y.restore(0);
        b.due("nothing and 1: isEquivalent(1)", y.isEquivalent(1), 0);
    }

    private void firstImages() {
        for (Boundaries.Start start : families()) {
            List<Long> least = image(start, 0);
            for (int number = 1; number < start.make().automorphisms(); number++) {
                List<Long> image = image(start, number);
                least = compare(image, least) < 0 ? image : least;
            }
            canonical(start.make(), least.stream().mapToLong(set -> set).toArray());
        }
    }

    private void sameImages() {
        for (Boundaries.Start start : families()) {
            List<Long> own = image(start, 0);
            int due = 0;
            for (int number = 0; number < start.make().automorphisms(); number++) {
                due += image(start, number).equals(own) ? 1 : 0;
            }
            b.due("symmetries() of " + own, start.make().symmetries(), due);
        }
    }

    private void sameMultiples() {
        for (Boundaries.Start start : families()) {
            List<Long> own = image(start, 0);
            long due = 0;
            int order = start.make().order();
            for (int t = 1; t < order; t++) {
                int factor = t;
                DifferenceFamilies x = start.make();
                // multiply() refuses numbers with a common divisor.
                boolean isMultiplier = x.multiply(t) >= 0 && image(() -> {
                    DifferenceFamilies y = start.make();
                    y.multiply(factor);
                    return y;
                }, 0).equals(own);
                due |= isMultiplier ? 1L << t : 0;
                b.due("isMultiplier(" + t + ") of " + own, start.make().isMultiplier(t), isMultiplier ? 1 : 0);
            }
            b.due("multipliers() of " + own, start.make().multipliers(), due);
        }
    }

    private void multipliers() {
        b.test(29, "The family may be empty", this::multipliersOfNothing);
        b.test(28, "then all these numbers are multipliers", this::eachMultiplierOfNothing);
        b.test(28, "t: 1 to v - 1", this::rangesOfMultipliers);
        b.test(28, "Returns 1 if t is a multiplier, 0 if not", this::isOrIsNot);
        b.test(28, "BAD_VALUE", this::badMultipliers);
        b.test(29, "Returns the set of all multipliers, bit t for t", this::setsOfMultipliers);
    }

    private void multipliersOfNothing() {
        b.due("7: multipliers()", States.fresh().multipliers(), 126);
        b.due("2: multipliers()", States.group(2, 1).multipliers(), 2);
        b.due("3 * 4: multipliers()", States.group(3, 4).multipliers(), Check.set(1, 5, 7, 11));
        b.due("40: multipliers()", States.group(40, 1).multipliers(),
                Check.set(1, 3, 7, 9, 11, 13, 17, 19, 21, 23, 27, 29, 31, 33, 37, 39));
    }

    private void eachMultiplierOfNothing() {
        for (int t = 1; t < 12; t++) {
            boolean isCoprime = t % 2 != 0 && t % 3 != 0;
            b.due("6 * 2: isMultiplier(" + t + ")", States.group(6, 2).isMultiplier(t), isCoprime ? 1 : 0);
        }
    }

    private void rangesOfMultipliers() {
        b.range(States::worked, "isMultiplier(?)", 1, 1, 7, 0, (x, t) -> x.isMultiplier(t));
        b.range(() -> States.group(2, 1), "2: isMultiplier(?)", 1, 1, 1, 1, (x, t) -> x.isMultiplier(t));
        b.range(() -> States.group(40, 1), "40: isMultiplier(?)", 1, 1, 39, 1, (x, t) -> x.isMultiplier(t));
    }

    private void isOrIsNot() {
        DifferenceFamilies x = blocks(7, 1, of(0, 1, 3));
        int[] due = {0, 1, 1, 0, 1, 0, 0};
        for (int t = 1; t < 7; t++) {
            b.due("isMultiplier(" + t + ")", x.isMultiplier(t), due[t]);
        }
        // A common divisor is no error; 2 * 2 has the map by 2 that keeps {0}, and 9 has that by 3.
        b.due("2 * 2, {0}: isMultiplier(2)", States.family(2, 2, 0).isMultiplier(2), 0);
        b.due("9, {0}: isMultiplier(3)", States.family(9, 1, 0).isMultiplier(3), 0);
    }

    private void badMultipliers() {
        b.refused(States::fresh, "isMultiplier(0)", BAD_VALUE, x -> x.isMultiplier(0));
        b.refused(States::fresh, "isMultiplier(7)", BAD_VALUE, x -> x.isMultiplier(7));
        b.refused(States::fresh, "isMultiplier(8)", BAD_VALUE, x -> x.isMultiplier(8));
        b.refused(States::full, "isMultiplier(41)", BAD_VALUE, x -> x.isMultiplier(41));
    }

    private void setsOfMultipliers() {
        b.due("{0, 1, 3}: multipliers()", blocks(7, 1, of(0, 1, 3)).multipliers(), 22);
        b.due("{0, 1, 3}, {0, 1}: multipliers()", blocks(7, 1, of(0, 1, 3), of(0, 1)).multipliers(), 2);
        b.due("40, {0, 39}: multipliers()", States.family(40, 1, 0, 39).multipliers(), 2 | 1L << 39);
        b.due("2, {0, 1}: multipliers()", States.family(2, 1, 0, 1).multipliers(), 2);
    }

    private void symmetries() {
        b.test(30, "Returns the number of symmetries of the family", this::leastAndGreatestSymmetries);
    }

    private void leastAndGreatestSymmetries() {
        b.due("symmetries() without blocks", States.fresh().symmetries(), 6);
        b.due("2: symmetries()", States.group(2, 1).symmetries(), 1);
        b.due("5 * 5: symmetries()", States.group(5, 5).symmetries(), 480);
        b.due("{0, 1, 3}, {0, 1}: symmetries()", blocks(7, 1, of(0, 1, 3), of(0, 1)).symmetries(), 1);
        b.due("5 * 5, {7}: symmetries()", States.family(5, 5, 7).symmetries(), 480);
    }

    private void canonicalForms() {
        b.test(31, "index: the index in the canonical form, counted from 0", this::placesInTheForm);
        b.test(31, "Returns the set at this index", this::setsOfTheForm);
        b.test(31, "BAD_VALUE if index is negative", this::negativePlaces);
        b.test(31, "NONE if the canonical form is not so long", this::placesBehindTheForm);
    }

    private void placesInTheForm() {
        DifferenceFamilies x = blocks(7, 1, of(0, 1), of(0, 2), of(0, 3), of(1), of(0, 1, 2), of(5, 6));
        b.due("canonical(-1)", x.canonical(-1), BAD_VALUE);
        b.due("canonical(0)", x.canonical(0), 1);
        b.due("canonical(5)", x.canonical(5), 9);
        b.due("canonical(6)", x.canonical(6), NONE);
    }

    private void setsOfTheForm() {
        canonical(blocks(7, 1, of(3)), 1);
        canonical(blocks(2, 1, of(1), of(0, 1)), 1, 3);
        canonical(blocks(2, 1, of(0, 1), of(1)), 1, 3);
        canonical(blocks(40, 1, of(0, 39)), 3);
        canonical(States.fresh());
    }

    private void negativePlaces() {
        b.refused(States::fresh, "canonical(-1)", BAD_VALUE, x -> x.canonical(-1));
        b.refused(States::worked, "canonical(-1)", BAD_VALUE, x -> x.canonical(-1));
        b.refused(States::worked, "canonical(MIN)", BAD_VALUE, x -> x.canonical(Integer.MIN_VALUE));
    }

    private void placesBehindTheForm() {
        b.refused(States::fresh, "canonical(0)", NONE, x -> x.canonical(0));
        b.refused(States::fresh, "canonical(MAX)", NONE, x -> x.canonical(Integer.MAX_VALUE));
        b.refused(States::worked, "canonical(3)", NONE, x -> x.canonical(3));
        b.refused(States::full, "canonical(6)", NONE, x -> x.canonical(6));
        b.refused(States::full, "canonical(MAX)", NONE, x -> x.canonical(Integer.MAX_VALUE));
    }

    private void equivalence() {
        b.test(32, "Two families (of the same group) are equivalent if they have the same canonical form",
                this::sameForms);
        b.test(32, "slot: 0 or 1", () -> b.range(() -> {
            DifferenceFamilies x = States.worked();
            x.keep(1);
            return x;
        }, "isEquivalent(?)", 0, 0, 1, 1, (x, slot) -> x.isEquivalent(slot)));
        b.test(32, "Returns 1 if the family is equivalent to the one that the slot keeps, 0 if not", this::keptFamilies);
        b.test(32, "BAD_VALUE", this::badSlots);
        b.test(32, "NOT_POSSIBLE if the slot keeps nothing", this::emptySlots);
    }

    private void sameForms() {
        for (Boundaries.Start start : families()) {
            for (int number = 0; number < Math.min(50, start.make().automorphisms()); number++) {
                DifferenceFamilies x = start.make();
                x.keep(0);
                x.apply(number);
                x.shift(0, x.order() - 1);
                b.due("keep(0); apply(" + number + "); shift(0, v - 1); isEquivalent(0)", x.isEquivalent(0), 1);
            }
        }
        DifferenceFamilies x = blocks(7, 1, of(0, 1, 3), of(0, 1, 3));
        x.keep(0);
        x.clearText();
        x.read();
        Check.putAll(x, 0, 0, 1, 3);
        Check.putAll(x, 1, 0, 6, 4);
        b.due("11 11 and 11 13: isEquivalent(0)", x.isEquivalent(0), 0);
        // No automorphism brings more elements to one, also where there are as many automorphisms as can be.
        DifferenceFamilies y = States.family(7, 1, 0);
        y.keep(1);
        Check.putAll(y, 0, 1, 3);
        b.due("11 and 1: isEquivalent(1)", y.isEquivalent(1), 0);
        DifferenceFamilies z = States.family(5, 5, 0, 1, 2);
        z.keep(1);
        z.exchange(0, 2, 5);
        b.due("5 * 5, {0, 1, 5} and {0, 1, 2}: isEquivalent(1)", z.isEquivalent(1), 0);
        z.exchange(0, 5, 3);
        b.due("5 * 5, {0, 1, 3} and {0, 1, 2}: isEquivalent(1)", z.isEquivalent(1), 1);
    }

    private void keptFamilies() {
        // A kept family without blocks is a family.
        DifferenceFamilies x = States.fresh();
        x.keep(0);
        b.due("nothing and nothing: isEquivalent(0)", x.isEquivalent(0), 1);
        x.put(3, 3);
        b.due("{3} and nothing: isEquivalent(0)", x.isEquivalent(0), 0);
        x.keep(1);
        x.take(3, 3);
        x.put(5, 0);
        b.due("{0} and {3}: isEquivalent(1)", x.isEquivalent(1), 1);
        // The hole does not count.
        x.setHole(1, 0);
        b.due("setHole(1, 0); isEquivalent(1)", x.isEquivalent(1), 1);
    }

    private void badSlots() {
        b.refused(States::fresh, "isEquivalent(2)", BAD_VALUE, x -> x.isEquivalent(2));
        b.refused(States::fresh, "isEquivalent(-1)", BAD_VALUE, x -> x.isEquivalent(-1));
        b.refused(States::full, "isEquivalent(2)", BAD_VALUE, x -> x.isEquivalent(2));
    }

    private void emptySlots() {
        b.refused(States::fresh, "isEquivalent(0)", NOT_POSSIBLE, x -> x.isEquivalent(0));
        b.refused(States::fresh, "isEquivalent(1)", NOT_POSSIBLE, x -> x.isEquivalent(1));
        b.refused(States::workedPairs, "isEquivalent(1)", NOT_POSSIBLE, x -> x.isEquivalent(1));
        DifferenceFamilies x = States.full();
        x.setGroup(40, 1);
        b.due("setGroup(40, 1); isEquivalent(0)", x.isEquivalent(0), NOT_POSSIBLE);
        b.due("setGroup(40, 1); isEquivalent(1)", x.isEquivalent(1), NOT_POSSIBLE);
    }
}
