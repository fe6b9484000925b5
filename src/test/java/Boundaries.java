import java.util.List;

/** Tests of single sentences of the document: each one names its promise and the words that it tests. */
final class Boundaries {
    /** Makes an object in some state; each call of it makes another one in the same state. */
    interface Start {
        DifferenceFamilies make();
    }

    interface Call {
        long on(DifferenceFamilies x);
    }

    interface CallWith {
        long on(DifferenceFamilies x, int value);
    }

    private final Sentences sentences = new Sentences();
    private String current = "";
    private int tests;
    private int answers;
    private int wrong;

    void test(int promise, String words, Runnable body) {
        tests++;
        current = "promise " + promise + ", \"" + words + "\": ";
        if (!sentences.name(promise, words)) {
            tellWrong("the document has no such sentence");
        }
        int before = answers;
        body.run();
        if (answers == before) {
            tellWrong("nothing was asked");
        }
    }

    private void tellWrong(String what) {
        wrong++;
        System.out.println(current + what);
    }

    void due(String call, long got, long want) {
        answers++;
        if (got != want) {
            tellWrong(call + " answered " + got + ", due is " + want);
        }
    }

    void holds(String what, boolean isSo) {
        answers++;
        if (!isSo) {
            tellWrong("not so: " + what);
        }
    }

    void blocks(String after, DifferenceFamilies x, long... due) {
        for (int block = 0; block < 6; block++) {
            due(after + "; block(" + block + ")", x.block(block), block < due.length ? due[block] : 0);
        }
    }

    /** A call gives an answer (an error, or NONE) and changes nothing that can be seen afterwards. */
    void refused(Start start, String call, long answer, Call made) {
        DifferenceFamilies x = start.make();
        due(call, made.on(x), answer);
        alike(call, x, start.make());
    }

    /** Behind some calls, an object answers as another one does without them. */
    void alike(String calls, DifferenceFamilies x, DifferenceFamilies without) {
        List<String> got = States.lastAnswers(x);
        List<String> want = States.lastAnswers(without);
        for (int i = 0; i < want.size(); i++) {
            holds("behind " + calls + ", as without it, " + want.get(i) + ", but not " + got.get(i),
                    got.get(i).equals(want.get(i)));
        }
    }

    /** The least and the greatest value give their answers; the values around the range are BAD_VALUE. */
    void range(Start start, String call, int low, long atLow, int high, long atHigh, CallWith made) {
        due(with(call, low), made.on(start.make(), low), atLow);
        due(with(call, high), made.on(start.make(), high), atHigh);
        // 64 places on, a shifted long has the same bit again.
        int[] outside = {low - 1, high + 1, low - 64, high + 64, Integer.MIN_VALUE, Integer.MAX_VALUE};
        for (int value : outside) {
            refused(start, with(call, value), DifferenceFamilies.BAD_VALUE, x -> made.on(x, value));
        }
    }

    private static String with(String call, int value) {
        return call.replace("?", String.valueOf(value));
    }

    void end() {
        current = "";
        for (String sentence : sentences.withoutTest()) {
            tellWrong("no test for " + sentence);
        }
        System.out.println("BoundariesTest: " + tests + " tests, " + answers + " answers, " + wrong + " wrong");
        if (wrong != 0) {
            System.exit(1);
        }
    }
}
