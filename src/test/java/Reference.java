import java.util.ArrayList;
import java.util.Collections;
import java.util.HashMap;
import java.util.List;
import java.util.Map;
import java.util.TreeSet;

/**
 * The document written down a second time, in the plainest way and with other means than the class has: sets are
 * sorted sets, counts are made by looking at all pairs, automorphisms are tested against all sums.
 */
final class Reference {
    private static final long BAD_VALUE = -1;
    private static final long FULL = -2;
    private static final long NOT_POSSIBLE = -3;
    private static final long NONE = -4;

    private static final Map<String, List<int[]>> AUTOMORPHISMS = new HashMap<>();
    private static final Map<String, List<TreeSet<Integer>>> CANDIDATES = new HashMap<>();

    private int n = 7;
    private int m = 1;
    private TreeSet<Integer> hole = new TreeSet<>(List.of(0));
    private List<TreeSet<Integer>> blocks = emptyBlocks();
    private final List<List<TreeSet<Integer>>> history = new ArrayList<>();
    private final List<List<TreeSet<Integer>>> keptBlocks = new ArrayList<>();
    private final List<TreeSet<Integer>> keptHoles = new ArrayList<>();
    private String text = "";
    private int steps;
    private int candidateCount;
    private int solutions;
    private List<TreeSet<Integer>> firstSolution;

    Reference() {
        emptySlots();
    }

    private void emptySlots() {
        keptBlocks.clear();
        keptHoles.clear();
        for (int slot = 0; slot < 2; slot++) {
            keptBlocks.add(null);
            keptHoles.add(null);
        }
    }

    private static List<TreeSet<Integer>> emptyBlocks() {
        List<TreeSet<Integer>> blocks = new ArrayList<>();
        for (int block = 0; block < 6; block++) {
            blocks.add(new TreeSet<>());
        }
        return blocks;
    }

    private static List<TreeSet<Integer>> copy(List<TreeSet<Integer>> blocks) {
        List<TreeSet<Integer>> copied = new ArrayList<>();
        for (TreeSet<Integer> block : blocks) {
            copied.add(new TreeSet<>(block));
        }
        return copied;
    }

    private static long number(TreeSet<Integer> set) {
        long number = 0;
        for (int x : set) {
            number += 1L << x;
        }
        return number;
    }

    private int v() {
        return n * m;
    }

    private boolean isElement(int x) {
        return 0 <= x && x < v();
    }

    private int add(int x, int y) {
        return m * ((x / m + y / m) % n) + (x % m + y % m) % m;
    }

    private int subtract(int x, int y) {
        return m * ((x / m - y / m + n) % n) + (x % m - y % m + m) % m;
    }

    private int times(int t, int x) {
        return m * (t * (x / m) % n) + t * (x % m) % m;
    }

    private static int gcd(int a, int b) {
        return b == 0 ? a : gcd(b, a % b);
    }

    private TreeSet<Integer> translate(TreeSet<Integer> set, int g) {
        TreeSet<Integer> translate = new TreeSet<>();
        for (int x : set) {
            translate.add(add(x, g));
        }
        return translate;
    }

    private long normalForm(TreeSet<Integer> set) {
        long least = Long.MAX_VALUE;
        for (int g = 0; g < v(); g++) {
            least = Math.min(least, number(translate(set, g)));
        }
        return least;
    }

    private TreeSet<Integer> mapped(TreeSet<Integer> set, int[] map) {
        TreeSet<Integer> image = new TreeSet<>();
        for (int x : set) {
            image.add(map[x]);
        }
        return image;
    }

    private int[] multiplication(int t) {
        int[] map = new int[v()];
        for (int x = 0; x < v(); x++) {
            map[x] = times(t, x);
        }
        return map;
    }

    private List<int[]> automorphismList() {
        String key = n + " " + m;
        if (!AUTOMORPHISMS.containsKey(key)) {
            AUTOMORPHISMS.put(key, makeAutomorphisms());
        }
        return AUTOMORPHISMS.get(key);
    }

    private List<int[]> makeAutomorphisms() {
        List<int[]> maps = new ArrayList<>();
        for (int p = 0; p < v(); p++) {
            for (int q = 0; q < (m == 1 ? 1 : v()); q++) {
                int[] map = new int[v()];
                for (int x = 0; x < v(); x++) {
                    map[x] = add(times(x / m, p), times(x % m, q));
                }
                if (isAutomorphism(map)) {
                    maps.add(map);
                }
            }
        }
        Collections.sort(maps, java.util.Arrays::compare);
        return maps;
    }

    private boolean isAutomorphism(int[] map) {
        TreeSet<Integer> images = new TreeSet<>();
        for (int x = 0; x < v(); x++) {
            images.add(map[x]);
            for (int y = 0; y < v(); y++) {
                if (map[add(x, y)] != add(map[x], map[y])) {
                    return false;
                }
            }
        }
        return images.size() == v();
    }

    private int[] countsOf(List<TreeSet<Integer>> family) {
        int[] counts = new int[v()];
        for (TreeSet<Integer> block : family) {
            for (int x : block) {
                for (int y : block) {
                    if (x != y) {
                        counts[subtract(x, y)]++;
                    }
                }
            }
        }
        return counts;
    }

    private int deficiencyOf(List<TreeSet<Integer>> family, int index) {
        int[] counts = countsOf(family);
        int sum = 0;
        for (int d = 1; d < v(); d++) {
            sum += hole.contains(d) ? counts[d] : Math.abs(counts[d] - index);
        }
        return sum;
    }

    private boolean isDifferenceFamily(List<TreeSet<Integer>> family, int index) {
        return deficiencyOf(family, index) == 0;
    }

    private List<Long> imageOf(List<TreeSet<Integer>> family, int[] map) {
        List<Long> image = new ArrayList<>();
        for (TreeSet<Integer> block : family) {
            if (!block.isEmpty()) {
                image.add(normalForm(mapped(block, map)));
            }
        }
        Collections.sort(image);
        return image;
    }

    private static int compare(List<Long> one, List<Long> two) {
        for (int i = 0; i < Math.min(one.size(), two.size()); i++) {
            if (!one.get(i).equals(two.get(i))) {
                return Long.compare(one.get(i), two.get(i));
            }
        }
        return one.size() - two.size();
    }

    private List<Long> canonicalForm(List<TreeSet<Integer>> family) {
        List<Long> least = null;
        for (int[] map : automorphismList()) {
            List<Long> image = imageOf(family, map);
            if (least == null || compare(image, least) < 0) {
                least = image;
            }
        }
        return least;
    }

    private boolean isMultiplierOf(int t) {
        return gcd(t, v()) == 1 && imageOf(blocks, multiplication(t)).equals(imageOf(blocks, multiplication(1)));
    }

    private List<TreeSet<Integer>> designList() {
        List<TreeSet<Integer>> design = new ArrayList<>();
        for (TreeSet<Integer> block : blocks) {
            List<TreeSet<Integer>> own = new ArrayList<>();
            for (int g = 0; g < v() && !block.isEmpty(); g++) {
                TreeSet<Integer> translate = translate(block, g);
                if (!own.contains(translate)) {
                    own.add(translate);
                }
            }
            design.addAll(own);
        }
        return design;
    }

    private void change(List<TreeSet<Integer>> newBlocks) {
        history.add(copy(blocks));
        if (history.size() > 5) {
            history.remove(0);
        }
        blocks = newBlocks;
    }

    private int filled() {
        int filled = 0;
        for (TreeSet<Integer> block : blocks) {
            filled += block.isEmpty() ? 0 : 1;
        }
        return filled;
    }

    long setGroup(int newN, int newM) {
        if (newN < 2 || newM < 1 || (long) newN * newM > 40) {
            return BAD_VALUE;
        }
        int before = v();
        n = newN;
        m = newM;
        hole = new TreeSet<>(List.of(0));
        blocks = emptyBlocks();
        history.clear();
        emptySlots();
        steps = 0;
        candidateCount = 0;
        solutions = 0;
        return before;
    }

    long order() {
        return v();
    }

    long sum(int x, int y) {
        return isElement(x) && isElement(y) ? add(x, y) : BAD_VALUE;
    }

    long multiple(int x, int t) {
        return isElement(x) && t >= 0 && t <= 1000 ? times(t, x) : BAD_VALUE;
    }

    long orderOf(int x) {
        if (!isElement(x)) {
            return BAD_VALUE;
        }
        int t = 1;
        while (times(t, x) != 0) {
            t++;
        }
        return t;
    }

    long automorphisms() {
        return automorphismList().size();
    }

    long image(int automorphism, int x) {
        if (automorphism < 0 || automorphism >= automorphisms() || !isElement(x)) {
            return BAD_VALUE;
        }
        return automorphismList().get(automorphism)[x];
    }

    long setHole(int x, int y) {
        if (!isElement(x) || !isElement(y)) {
            return BAD_VALUE;
        }
        TreeSet<Integer> closure = new TreeSet<>(List.of(0, x));
        closure.add(y);
        int before = 0;
        while (closure.size() > before) {
            before = closure.size();
            for (int one : new ArrayList<>(closure)) {
                for (int two : new ArrayList<>(closure)) {
                    closure.add(add(one, two));
                }
            }
        }
        hole = closure;
        history.clear();
        return hole.size();
    }

    long hole() {
        return number(hole);
    }

    private static boolean isBlock(int block) {
        return block >= 0 && block <= 5;
    }

    long put(int block, int x) {
        if (!isBlock(block) || !isElement(x)) {
            return BAD_VALUE;
        }
        if (blocks.get(block).contains(x)) {
            return NOT_POSSIBLE;
        }
        List<TreeSet<Integer>> changed = copy(blocks);
        changed.get(block).add(x);
        change(changed);
        return blocks.get(block).size();
    }

    long take(int block, int x) {
        if (!isBlock(block) || !isElement(x)) {
            return BAD_VALUE;
        }
        if (!blocks.get(block).contains(x)) {
            return NOT_POSSIBLE;
        }
        List<TreeSet<Integer>> changed = copy(blocks);
        changed.get(block).remove(x);
        change(changed);
        return blocks.get(block).size();
    }

    long shift(int block, int g) {
        if (!isBlock(block) || !isElement(g)) {
            return BAD_VALUE;
        }
        List<TreeSet<Integer>> changed = copy(blocks);
        changed.set(block, translate(blocks.get(block), g));
        change(changed);
        return blocks.get(block).size();
    }

    private long changeByMap(int[] map) {
        int different = 0;
        List<TreeSet<Integer>> changed = new ArrayList<>();
        for (TreeSet<Integer> block : blocks) {
            changed.add(mapped(block, map));
            different += mapped(block, map).equals(block) ? 0 : 1;
        }
        change(changed);
        return different;
    }

    long apply(int automorphism) {
        if (automorphism < 0 || automorphism >= automorphisms()) {
            return BAD_VALUE;
        }
        return changeByMap(automorphismList().get(automorphism));
    }

    long multiply(int t) {
        if (t < 1 || t > 1000 || gcd(t, v()) > 1) {
            return BAD_VALUE;
        }
        return changeByMap(multiplication(t));
    }

    private List<TreeSet<Integer>> exchanged(int block, int x, int y) {
        List<TreeSet<Integer>> changed = copy(blocks);
        changed.get(block).remove(x);
        changed.get(block).add(y);
        return changed;
    }

    long exchange(int block, int x, int y) {
        if (!isBlock(block) || !isElement(x) || !isElement(y)) {
            return BAD_VALUE;
        }
        if (!blocks.get(block).contains(x) || blocks.get(block).contains(y)) {
            return NOT_POSSIBLE;
        }
        change(exchanged(block, x, y));
        return deficiencyOf(blocks, 1);
    }

    long improve(int index) {
        if (index < 1 || index > 20) {
            return BAD_VALUE;
        }
        int least = deficiencyOf(blocks, index);
        List<TreeSet<Integer>> best = null;
        for (int block = 0; block < 6; block++) {
            for (int x : blocks.get(block)) {
                for (int y = 0; y < v(); y++) {
                    if (!blocks.get(block).contains(y)) {
                        List<TreeSet<Integer>> changed = exchanged(block, x, y);
                        int deficiency = deficiencyOf(changed, index);
                        if (deficiency < least) {
                            least = deficiency;
                            best = changed;
                        }
                    }
                }
            }
        }
        if (best == null) {
            return NONE;
        }
        change(best);
        return least;
    }

    long undo() {
        if (history.isEmpty()) {
            return NOT_POSSIBLE;
        }
        blocks = history.remove(history.size() - 1);
        return history.size();
    }

    long block(int block) {
        return isBlock(block) ? number(blocks.get(block)) : BAD_VALUE;
    }

    long normal(int block) {
        if (!isBlock(block)) {
            return BAD_VALUE;
        }
        return blocks.get(block).isEmpty() ? NONE : normalForm(blocks.get(block));
    }

    long stabilizer(int block) {
        if (!isBlock(block)) {
            return BAD_VALUE;
        }
        if (blocks.get(block).isEmpty()) {
            return NONE;
        }
        int fixing = 0;
        for (int g = 0; g < v(); g++) {
            fixing += translate(blocks.get(block), g).equals(blocks.get(block)) ? 1 : 0;
        }
        return fixing;
    }

    long blockSize() {
        TreeSet<Integer> sizes = new TreeSet<>();
        for (TreeSet<Integer> block : blocks) {
            if (!block.isEmpty()) {
                sizes.add(block.size());
            }
        }
        return sizes.size() == 1 ? sizes.first() : NONE;
    }

    long count(int d) {
        return isElement(d) && d != 0 ? countsOf(blocks)[d] : BAD_VALUE;
    }

    long covered() {
        int covered = 0;
        for (int count : countsOf(blocks)) {
            covered += count > 0 ? 1 : 0;
        }
        return covered;
    }

    long greatestCount() {
        int greatest = 0;
        for (int count : countsOf(blocks)) {
            greatest = Math.max(greatest, count);
        }
        return greatest;
    }

    long index() {
        for (int index = 1; index <= 240; index++) {
            if (hole.size() < v() && isDifferenceFamily(blocks, index)) {
                return index;
            }
        }
        return NONE;
    }

    long deficiency(int index) {
        return index >= 1 && index <= 20 ? deficiencyOf(blocks, index) : BAD_VALUE;
    }

    long isMultiplier(int t) {
        if (t < 1 || t > v() - 1) {
            return BAD_VALUE;
        }
        return isMultiplierOf(t) ? 1 : 0;
    }

    long multipliers() {
        long set = 0;
        for (int t = 1; t < v(); t++) {
            set += isMultiplierOf(t) ? 1L << t : 0;
        }
        return set;
    }

    long symmetries() {
        int symmetries = 0;
        for (int[] map : automorphismList()) {
            symmetries += imageOf(blocks, map).equals(imageOf(blocks, multiplication(1))) ? 1 : 0;
        }
        return symmetries;
    }

    long canonical(int index) {
        if (index < 0) {
            return BAD_VALUE;
        }
        List<Long> form = canonicalForm(blocks);
        return index < form.size() ? form.get(index) : NONE;
    }

    long isEquivalent(int slot) {
        if (slot != 0 && slot != 1) {
            return BAD_VALUE;
        }
        if (keptBlocks.get(slot) == null) {
            return NOT_POSSIBLE;
        }
        return canonicalForm(blocks).equals(canonicalForm(keptBlocks.get(slot))) ? 1 : 0;
    }

    long designBlocks() {
        return designList().size();
    }

    long designBlock(int number) {
        List<TreeSet<Integer>> design = designList();
        return number >= 0 && number < design.size() ? number(design.get(number)) : BAD_VALUE;
    }

    long replication(int x) {
        if (!isElement(x)) {
            return BAD_VALUE;
        }
        int with = 0;
        for (TreeSet<Integer> block : designList()) {
            with += block.contains(x) ? 1 : 0;
        }
        return with;
    }

    long pairs(int x, int y) {
        if (!isElement(x) || !isElement(y) || x == y) {
            return BAD_VALUE;
        }
        int with = 0;
        for (TreeSet<Integer> block : designList()) {
            with += block.contains(x) && block.contains(y) ? 1 : 0;
        }
        return with;
    }

    long intersections(int common) {
        if (common < 0 || common > 40) {
            return BAD_VALUE;
        }
        List<TreeSet<Integer>> design = designList();
        int pairs = 0;
        for (int i = 0; i < design.size(); i++) {
            for (int j = i + 1; j < design.size(); j++) {
                TreeSet<Integer> both = new TreeSet<>(design.get(i));
                both.retainAll(design.get(j));
                pairs += both.size() == common ? 1 : 0;
            }
        }
        return pairs;
    }

    long rank(int p) {
        if (p != 2 && p != 3 && p != 5 && p != 7) {
            return BAD_VALUE;
        }
        List<TreeSet<Integer>> design = designList();
        int[][] matrix = new int[design.size()][v()];
        for (int i = 0; i < design.size(); i++) {
            for (int x : design.get(i)) {
                matrix[i][x] = 1;
            }
        }
        int rank = 0;
        for (int column = v() - 1; column >= 0; column--) {
            int pivot = rank;
            while (pivot < matrix.length && matrix[pivot][column] == 0) {
                pivot++;
            }
            if (pivot < matrix.length) {
                int[] row = matrix[pivot];
                matrix[pivot] = matrix[rank];
                matrix[rank] = row;
                clearBelow(matrix, rank, column, p);
                rank++;
            }
        }
        return rank;
    }

    private static void clearBelow(int[][] matrix, int rank, int column, int p) {
        for (int i = rank + 1; i < matrix.length; i++) {
            // Subtracting the pivot's row until the entry is 0 needs no inverse.
            while (matrix[i][column] != 0) {
                for (int j = 0; j < matrix[i].length; j++) {
                    matrix[i][j] = (matrix[i][j] - matrix[rank][j] + p) % p;
                }
            }
        }
    }

    long disjointBlocks() {
        TreeSet<Integer> used = new TreeSet<>();
        int found = 0;
        for (TreeSet<Integer> block : designList()) {
            if (Collections.disjoint(block, used)) {
                used.addAll(block);
                found++;
            }
        }
        return found;
    }

    private List<TreeSet<Integer>> candidateList(int size, int t) {
        String key = n + " " + m + " " + size + " " + t;
        if (!CANDIDATES.containsKey(key)) {
            List<TreeSet<Integer>> list = new ArrayList<>();
            collect(new TreeSet<>(), 0, size, t, list);
            list.sort((one, two) -> Long.compare(number(one), number(two)));
            CANDIDATES.put(key, list);
        }
        return CANDIDATES.get(key);
    }

    private void collect(TreeSet<Integer> set, int from, int size, int t, List<TreeSet<Integer>> list) {
        if (set.size() == size) {
            if (normalForm(set) == number(set) && normalForm(mapped(set, multiplication(t))) == number(set)) {
                list.add(new TreeSet<>(set));
            }
            return;
        }
        for (int x = from; x < v(); x++) {
            set.add(x);
            collect(set, x + 1, size, t, list);
            set.remove(x);
        }
    }

    long search(int size, int index, int count, int t, int mostSteps) {
        if (size < 2 || size > 5 || index < 1 || index > 9 || count < 1 || count > 4 || t < 1 || t > v() - 1
                || mostSteps < 1 || mostSteps > 5000 || gcd(t, v()) > 1) {
            return BAD_VALUE;
        }
        if (v() > 25) {
            return NOT_POSSIBLE;
        }
        List<TreeSet<Integer>> list = candidateList(size, t);
        candidateCount = list.size();
        steps = 0;
        solutions = 0;
        firstSolution = null;
        goOn(list, new ArrayList<>(), 0, index, count, mostSteps);
        return solutions;
    }

    private void goOn(List<TreeSet<Integer>> list, List<TreeSet<Integer>> partial, int from, int index, int count,
            int mostSteps) {
        if (partial.size() == count) {
            if (hole.size() < v() && isDifferenceFamily(partial, index)) {
                solutions++;
                firstSolution = firstSolution == null ? copy(partial) : firstSolution;
            }
            return;
        }
        for (int i = from; i < list.size() && steps < mostSteps; i++) {
            steps++;
            partial.add(list.get(i));
            if (isPartialSolution(partial, index)) {
                goOn(list, partial, i, index, count, mostSteps);
            }
            partial.remove(partial.size() - 1);
        }
    }

    private boolean isPartialSolution(List<TreeSet<Integer>> partial, int index) {
        int[] counts = countsOf(partial);
        for (int d = 1; d < v(); d++) {
            if (counts[d] > index || hole.contains(d) && counts[d] > 0) {
                return false;
            }
        }
        return true;
    }

    long searchSteps() {
        return steps;
    }

    long candidates() {
        return candidateCount;
    }

    long takeSolution() {
        if (solutions == 0) {
            return NOT_POSSIBLE;
        }
        List<TreeSet<Integer>> changed = emptyBlocks();
        for (int i = 0; i < firstSolution.size(); i++) {
            changed.set(i, new TreeSet<>(firstSolution.get(i)));
        }
        change(changed);
        return firstSolution.size();
    }

    long append(int character) {
        if (character < 32 || character > 126) {
            return BAD_VALUE;
        }
        if (text.length() == 160) {
            return FULL;
        }
        text += (char) character;
        return text.length();
    }

    long clearText() {
        int length = text.length();
        text = "";
        return length;
    }

    /** Goes through the text character by character, with what may follow as its state. */
    private long parse(List<TreeSet<Integer>> parsed) {
        TreeSet<Integer> current = new TreeSet<>();
        String numbers = "";
        int elementStart = 0;
        int numberStart = 0;
        for (int i = 0; i <= text.length(); i++) {
            char c = i < text.length() ? text.charAt(i) : 0;
            boolean isInSecond = numbers.contains(".");
            String digits = numbers.substring(numbers.indexOf('.') + 1);
            if (Character.isDigit(c) && parsed.size() < 6 && !digits.equals("0")) {
                elementStart = numbers.isEmpty() ? i : elementStart;
                numberStart = digits.isEmpty() ? i : numberStart;
                numbers += c;
                continue;
            }
            if (digits.isEmpty()) {
                boolean isEnd = i == text.length() && numbers.isEmpty() && current.isEmpty()
                        && (i == 0 || text.charAt(i - 1) == ';');
                return isEnd ? NONE : i;
            }
            if (digits.length() > 2 || Integer.parseInt(digits) >= (isInSecond ? m : n)) {
                return numberStart;
            }
            if (m > 1 && !isInSecond) {
                if (c != '.') {
                    return i;
                }
                numbers += c;
                continue;
            }
            String[] parts = numbers.split("\\.");
            int x = m * Integer.parseInt(parts[0]) + (m > 1 ? Integer.parseInt(parts[1]) : 0);
            if (!current.add(x)) {
                return elementStart;
            }
            numbers = "";
            if (c == ';') {
                parsed.add(current);
                current = new TreeSet<>();
            } else if (c != ',') {
                return i;
            }
        }
        return NONE;
    }

    long faultPosition() {
        return parse(new ArrayList<>());
    }

    long read() {
        List<TreeSet<Integer>> parsed = new ArrayList<>();
        if (parse(parsed) != NONE) {
            return NOT_POSSIBLE;
        }
        int count = parsed.size();
        while (parsed.size() < 6) {
            parsed.add(new TreeSet<>());
        }
        change(parsed);
        return count;
    }

    long keep(int slot) {
        if (slot != 0 && slot != 1) {
            return BAD_VALUE;
        }
        keptBlocks.set(slot, copy(blocks));
        keptHoles.set(slot, hole);
        return filled();
    }

    long restore(int slot) {
        if (slot != 0 && slot != 1) {
            return BAD_VALUE;
        }
        if (keptBlocks.get(slot) == null) {
            return NOT_POSSIBLE;
        }
        blocks = copy(keptBlocks.get(slot));
        hole = keptHoles.get(slot);
        history.clear();
        return filled();
    }

    long checksum() {
        List<Long> values = new ArrayList<>(List.of(order(), automorphisms(), hole()));
        for (int block = 0; block < 6; block++) {
            values.add(block(block));
        }
        for (int d = 1; d < v(); d++) {
            values.add(count(d));
        }
        values.add(multipliers());
        values.add(symmetries());
        values.addAll(canonicalForm(blocks));
        values.add(designBlocks());
        values.add(rank(2));
        long h = 23;
        for (long value : values) {
            h = 31 * h + value;
        }
        return h;
    }
}
