/** Compares answers with those that are due, and tells every one that is wrong. */
final class Check {
    private final String name;
    private int asked;
    private int wrong;

    Check(String name) {
        this.name = name;
    }

    void due(int promise, String call, long got, long want) {
        asked++;
        if (got != want) {
            wrong++;
            System.out.println("promise " + promise + ": " + call + " answered " + got + ", due is " + want);
        }
    }

    void holds(String what, boolean isSo) {
        asked++;
        if (!isSo) {
            wrong++;
            System.out.println("not so: " + what);
        }
    }

    boolean isAllRight() {
        return wrong == 0;
    }

    void end() {
        System.out.println(name + ": " + asked + " answers, " + wrong + " wrong");
        if (wrong != 0) {
            System.exit(1);
        }
    }

    /** Makes a set of elements as a number. */
    static long set(int... elements) {
        long set = 0L;
        for (int x : elements) {
            set |= 1L << x;
        }
        return set;
    }

    static void putAll(DifferenceFamilies families, int block, int... elements) {
        for (int x : elements) {
            families.put(block, x);
        }
    }

    static void appendAll(DifferenceFamilies families, String text) {
        for (int i = 0; i < text.length(); i++) {
            families.append(text.charAt(i));
        }
    }
}
