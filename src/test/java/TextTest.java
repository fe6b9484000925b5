/** Promises 44 to 47: the text. */
public final class TextTest {
    private static final Check CHECK = new Check("TextTest");
    private static final int BAD_VALUE = DifferenceFamilies.BAD_VALUE;
    private static final int FULL = DifferenceFamilies.FULL;
    private static final int NOT_POSSIBLE = DifferenceFamilies.NOT_POSSIBLE;
    private static final int NONE = DifferenceFamilies.NONE;

    public static void main(String[] args) {
        appendAndClear();
        fullBuffer();
        faultsInOneFactor();
        faultsInTwoFactors();
        secondNumberOfLargeFactor();
        reads();
        readsOfNothing();
        readsOfFaults();
        CHECK.end();
    }

    private static void appendAndClear() {
        DifferenceFamilies x = new DifferenceFamilies();
        CHECK.due(44, "append(31)", x.append(31), BAD_VALUE);
        CHECK.due(44, "append(127)", x.append(127), BAD_VALUE);
        CHECK.due(44, "append(-1)", x.append(-1), BAD_VALUE);
        CHECK.due(44, "append(65536 + 48)", x.append(65536 + 48), BAD_VALUE);
        CHECK.due(44, "append(32)", x.append(32), 1);
        CHECK.due(44, "append(126)", x.append(126), 2);
        CHECK.due(45, "clearText()", x.clearText(), 2);
        CHECK.due(45, "clearText()", x.clearText(), 0);
        CHECK.due(44, "append(48)", x.append(48), 1);
    }

    private static void fullBuffer() {
        DifferenceFamilies x = new DifferenceFamilies();
        for (int i = 1; i <= 160; i++) {
            CHECK.due(44, "append(49)", x.append('1'), i);
        }
        CHECK.due(44, "append(49)", x.append('1'), FULL);
        CHECK.due(44, "append(31)", x.append(31), BAD_VALUE);
        // A number of 160 digits is too great.
        CHECK.due(46, "faultPosition()", x.faultPosition(), 0);
        CHECK.due(45, "clearText()", x.clearText(), 160);
        x.setGroup(40, 1);
        for (int e = 10; e < 40; e++) {
            Check.appendAll(x, e + ",");
        }
        Check.appendAll(x, "0,1,2,3;0,1,2,3,4;1,0;2;3;0,1,2,3,4,5,6,7,8,9,10,11,12,13,14,15,16,17");
        CHECK.due(46, "faultPosition()", x.faultPosition(), 159);
        CHECK.due(44, "append(59)", x.append(';'), 160);
        CHECK.due(44, "append(59)", x.append(';'), FULL);
        CHECK.due(46, "faultPosition()", x.faultPosition(), NONE);
        CHECK.due(47, "read()", x.read(), 6);
        CHECK.due(47, "block(5)", x.block(5), (1L << 18) - 1);
    }

    private static void fault(DifferenceFamilies x, String text, int due) {
        x.clearText();
        Check.appendAll(x, text);
        CHECK.due(46, "\"" + text + "\": faultPosition()", x.faultPosition(), due);
    }

    private static void faultsInOneFactor() {
        DifferenceFamilies x = new DifferenceFamilies();
        x.setGroup(13, 1);
        fault(x, "", NONE);
        fault(x, "0;", NONE);
        fault(x, "12,0,1;3;", NONE);
        fault(x, "1;2;3;4;5;6;", NONE);
        fault(x, "0;0;", NONE);
        // It ends too early.
        fault(x, "1", 1);
        fault(x, "12", 2);
        fault(x, "1,", 2);
        fault(x, "1;2", 3);
        fault(x, "1;2;3;4;5;6", 11);
        // A character that cannot follow.
        fault(x, ";", 0);
        fault(x, ",1;", 0);
        fault(x, " 1;", 0);
        fault(x, "1 ;", 1);
        fault(x, "1,,2;", 2);
        fault(x, "1,;", 2);
        fault(x, "1;;", 2);
        fault(x, "1.0;", 1);
        fault(x, "-1;", 0);
        fault(x, "1:2;", 1);
        fault(x, "1/2;", 1);
        fault(x, "1;x", 2);
        fault(x, "1;2;3;4;5;6;7;", 12);
        fault(x, "1;2;3;4;5;6;;", 12);
        // A digit behind 0.
        fault(x, "00;", 1);
        fault(x, "01;", 1);
        fault(x, "2,05;", 3);
        fault(x, "10;", NONE);
        // Too great.
        fault(x, "13;", 0);
        fault(x, "1,13;", 2);
        fault(x, "1,13", 2);
        fault(x, "1,99x", 2);
        fault(x, "1;120;", 2);
        fault(x, "4294967297;", 0);
        fault(x, "18446744073709551617;", 0);
        // Twice in a block.
        fault(x, "1,1;", 2);
        fault(x, "5,12,7,12;", 7);
        fault(x, "1,12,2;", NONE);
        fault(x, "1,1", 2);
        fault(x, "1,1x", 2);
        fault(x, "1,2;1,2,2;", 8);
    }

    private static void faultsInTwoFactors() {
        DifferenceFamilies x = new DifferenceFamilies();
        x.setGroup(6, 3);
        fault(x, "5.2;", NONE);
        fault(x, "0.0,0.1,1.0;0.0;", NONE);
        fault(x, "5;", 1);
        fault(x, "5,4;", 1);
        fault(x, "5", 1);
        fault(x, "5.", 2);
        fault(x, "5.;", 2);
        fault(x, "5..1;", 2);
        fault(x, "5.1", 3);
        fault(x, "5.1.1;", 3);
        fault(x, ".1;", 0);
        fault(x, "5.3;", 2);
        fault(x, "6.3;", 0);
        fault(x, "6;", 0);
        fault(x, "6", 0);
        fault(x, "5.01;", 3);
        fault(x, "05.1;", 1);
        fault(x, "5.10;", 2);
        fault(x, "5.1,5.1;", 4);
        fault(x, "5.1,5.2;", NONE);
        fault(x, "5.1,1.1,5.1;", 8);
        fault(x, "5.1,5.", 6);
        fault(x, "5.1,5.1", 4);
        fault(x, "5.1;5.1;", NONE);
        fault(x, "0.0;0.0;0.0;0.0;0.0;0.0;", NONE);
        fault(x, "0.0;0.0;0.0;0.0;0.0;0.0;0", 24);
    }

    private static void secondNumberOfLargeFactor() {
        DifferenceFamilies x = new DifferenceFamilies();
        x.setGroup(2, 20);
        fault(x, "1.19;", NONE);
        fault(x, "1.20;", 2);
        fault(x, "2.19;", 0);
        fault(x, "1.1,1.19;", NONE);
        fault(x, "1.19,1.1,1.19;", 9);
    }

    private static void reads() {
        DifferenceFamilies x = new DifferenceFamilies();
        x.setGroup(6, 3);
        Check.putAll(x, 0, 9);
        Check.putAll(x, 5, 8);
        Check.appendAll(x, "5.2,0.1;1.0;");
        CHECK.due(47, "read()", x.read(), 2);
        CHECK.due(47, "block(0)", x.block(0), Check.set(17, 1));
        CHECK.due(47, "block(1)", x.block(1), Check.set(3));
        for (int block = 2; block < 6; block++) {
            CHECK.due(47, "block(" + block + ")", x.block(block), 0);
        }
        CHECK.due(18, "undo()", x.undo(), 2);
        CHECK.due(18, "block(5)", x.block(5), Check.set(8));
        CHECK.due(47, "read()", x.read(), 2);
        CHECK.due(45, "clearText()", x.clearText(), 12);
        x.setGroup(13, 1);
        Check.appendAll(x, "12;11;10;9,0;8;7;");
        CHECK.due(47, "read()", x.read(), 6);
        CHECK.due(47, "block(3)", x.block(3), Check.set(9, 0));
        CHECK.due(47, "block(5)", x.block(5), Check.set(7));
    }

    private static void readsOfNothing() {
        DifferenceFamilies x = new DifferenceFamilies();
        x.put(2, 4);
        CHECK.due(47, "read()", x.read(), 0);
        CHECK.due(47, "block(2)", x.block(2), 0);
        CHECK.due(18, "undo()", x.undo(), 1);
        CHECK.due(18, "block(2)", x.block(2), 16);
    }

    private static void readsOfFaults() {
        DifferenceFamilies x = new DifferenceFamilies();
        x.put(0, 4);
        Check.appendAll(x, "1;2;3");
        CHECK.due(47, "read()", x.read(), NOT_POSSIBLE);
        CHECK.due(47, "block(0)", x.block(0), 16);
        CHECK.due(47, "block(1)", x.block(1), 0);
        CHECK.due(44, "append(59)", x.append(';'), 6);
        CHECK.due(47, "read()", x.read(), 3);
        CHECK.due(47, "block(2)", x.block(2), 8);
        CHECK.due(18, "undo()", x.undo(), 1);
    }
}
