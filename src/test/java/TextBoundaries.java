/** 'The text', and promises 44 to 47. */
final class TextBoundaries {
    private static final int BAD_VALUE = DifferenceFamilies.BAD_VALUE;
    private static final int FULL = DifferenceFamilies.FULL;
    private static final int NOT_POSSIBLE = DifferenceFamilies.NOT_POSSIBLE;
    private static final int NONE = DifferenceFamilies.NONE;

    private final Boundaries b;

    TextBoundaries(Boundaries b) {
        this.b = b;
    }

    void run() {
        sentencesOfTheText();
        appends();
        clears();
        faults();
        reads();
    }

    private static DifferenceFamilies text(int n, int m, String text) {
        DifferenceFamilies x = States.group(n, m);
        Check.appendAll(x, text);
        return x;
    }

    private void fault(int n, int m, String text, int due) {
        b.due(n + " * " + m + ", \"" + text + "\": faultPosition()", text(n, m, text).faultPosition(), due);
    }

    private void sentencesOfTheText() {
        b.test(44, "The text buffer holds at most 160 characters", this::mostCharacters);
        b.test(46, "Its text consists of at most six blocks, each followed by a semicolon", this::blocksOfTheText);
        b.test(46, "A block is a list of one or more elements, separated by commas, no element twice",
                this::elementsOfABlock);
        b.test(46, "An element is a decimal number, the first number of the pair, and, if m is greater than 1, a point",
                this::numbersOfAnElement);
        b.test(46, "A decimal number is 0, or a sequence of digits that does not begin with 0", this::decimalNumbers);
        b.test(46, "There are no other characters", this::allCharacters);
        b.test(46, "the first character that cannot follow the characters before it in such a text", this::whatCannotFollow);
        b.test(46, "or the length of the text if it ends too early", this::endsTooEarly);
        b.test(46, "a number that is too great is a fault at its first digit", this::tooGreat);
        b.test(46, "an element that is in the block already (at the first digit of its first number)",
                this::elementsTwice);
    }

    private void mostCharacters() {
        b.due("length of the full text", States.FULL_TEXT.length(), 160);
        DifferenceFamilies x = States.group(40, 1);
        for (int i = 0; i < 160; i++) {
            b.due("append()", x.append(States.FULL_TEXT.charAt(i)), i + 1);
        }
        b.due("append(';') as character 161", x.append(';'), FULL);
        b.due("faultPosition()", x.faultPosition(), NONE);
        b.due("read()", x.read(), 6);
        b.due("block(5)", x.block(5), (1L << 18) - 1);
    }

    private void blocksOfTheText() {
        fault(7, 1, "1;", NONE);
        fault(7, 1, "1;2;3;4;5;", NONE);
        fault(7, 1, "1;2;3;4;5;6;", NONE);
        fault(7, 1, "1;2;3;4;5;6;0", 12);
        fault(7, 1, "1;2;3;4;5;6;0;", 12);
        fault(7, 1, "1;2;3;4;5;6;;", 12);
        // The last block has no semicolon.
        fault(7, 1, "1;2;3;4;5;6", 11);
        fault(7, 1, "1,2", 3);
        fault(3, 2, "0.0;0.1;1.0;1.1;2.0;2.1;", NONE);
        fault(3, 2, "0.0;0.1;1.0;1.1;2.0;2.1;0.0;", 24);
    }

    private void elementsOfABlock() {
        // None, one, all.
        fault(7, 1, ";", 0);
        fault(7, 1, "1;;", 2);
        fault(7, 1, "6;", NONE);
        fault(7, 1, "0,1,2,3,4,5,6;", NONE);
        fault(7, 1, "0,1,2,3,4,5,6,0;", 14);
        fault(2, 1, "0,1;", NONE);
        fault(2, 1, "1,0,1;", 4);
        // Not separated, separated twice, a comma behind the last one or before the first one.
        fault(7, 1, "1 2;", 1);
        fault(7, 1, "1,,2;", 2);
        fault(7, 1, "1,2,;", 4);
        fault(7, 1, ",1;", 0);
        // In another block, it may be again.
        fault(7, 1, "1,2;1,2;", NONE);
    }

    private void numbersOfAnElement() {
        fault(7, 1, "1;", NONE);
        fault(7, 1, "1.0;", 1);
        fault(7, 2, "1.0;", NONE);
        fault(7, 2, "1;", 1);
        fault(7, 2, "1,2;", 1);
        fault(7, 2, "1.;", 2);
        fault(7, 2, ".1;", 0);
        fault(7, 2, "1..1;", 2);
        fault(7, 2, "1.0.0;", 3);
    }

    private void decimalNumbers() {
        fault(40, 1, "0;", NONE);
        fault(40, 1, "00;", 1);
        fault(40, 1, "01;", 1);
        fault(40, 1, "10;", NONE);
        fault(40, 1, "1,03;", 3);
        fault(2, 20, "0.0;", NONE);
        fault(2, 20, "0.10;", NONE);
        fault(2, 20, "0.01;", 3);
        fault(2, 20, "00.1;", 1);
        fault(2, 20, "01.1;", 1);
        fault(40, 1, "+1;", 0);
        fault(40, 1, "-0;", 0);
    }

    /** Each character behind some beginnings, in a cyclic group of order 13 and in the product of 6 and 3. */
    private void allCharacters() {
        for (char c = 32; c <= 126; c++) {
            boolean isDigit = c >= '0' && c <= '9';
            boolean isEnd = c == ';';
            fault(13, 1, "" + c, isDigit ? 1 : 0);
            int number = 10 + c - '0';
            fault(13, 1, "1" + c, isEnd ? NONE : isDigit ? number < 13 ? 2 : 0 : c == ',' ? 2 : 1);
            fault(13, 1, "0" + c, isEnd ? NONE : c == ',' ? 2 : 1);
            fault(13, 1, "2," + c, isDigit && c != '2' ? 3 : 2);
            fault(13, 1, "1;" + c, isDigit ? 3 : 2);
            fault(6, 3, "5" + c, isDigit ? 0 : c == '.' ? 2 : 1);
            fault(6, 3, "5." + c, c >= '0' && c <= '2' ? 3 : 2);
            fault(6, 3, "5.1" + c, isEnd ? NONE : isDigit ? 2 : c == ',' ? 4 : 3);
            fault(6, 3, "5.0" + c, isEnd ? NONE : c == ',' ? 4 : 3);
        }
    }

    private void whatCannotFollow() {
        fault(7, 1, " 1;", 0);
        fault(7, 1, "1; 2;", 2);
        fault(7, 1, "1:2;", 1);
        fault(7, 1, "1/2;", 1);
        fault(7, 1, "a;", 0);
        // The first of several faults.
        fault(7, 1, "1,x;9;", 2);
        fault(7, 1, "1,9;x", 2);
        fault(7, 1, "1;2x,2", 3);
        // A comma follows any element, also the last one that there is: the fault is at what stands behind it.
        fault(2, 1, "0,1,", 4);
        fault(2, 1, "0,1,;", 4);
        fault(2, 1, "0,1,0;", 4);
        // The last character of a full text.
        String text = States.FULL_TEXT.substring(0, 159) + "x";
        fault(40, 1, text, 159);
    }

    private void endsTooEarly() {
        fault(7, 1, "1", 1);
        fault(7, 1, "1,", 2);
        fault(7, 1, "1;2", 3);
        fault(7, 1, "1;2,", 4);
        fault(7, 2, "1", 1);
        fault(7, 2, "1.", 2);
        fault(7, 2, "1.1", 3);
        fault(7, 2, "1.1,", 4);
        fault(7, 2, "1.1;1.", 6);
        fault(40, 1, States.FULL_TEXT.substring(0, 159), 159);
        fault(40, 1, States.FULL_TEXT.substring(0, 159) + ",", 160);
        // Where nothing was begun, nothing ends too early.
        fault(7, 1, "1;", NONE);
    }

    private void tooGreat() {
        fault(7, 1, "6;", NONE);
        fault(7, 1, "7;", 0);
        fault(40, 1, "39;", NONE);
        fault(40, 1, "40;", 0);
        fault(40, 1, "1,2,400;", 4);
        fault(2, 20, "1.19;", NONE);
        fault(2, 20, "1.20;", 2);
        fault(2, 20, "2.0;", 0);
        fault(2, 20, "2.20;", 0);
        fault(2, 20, "0.0,1.100;", 6);
        // As ints or as longs, these go round to 0 and 1.
        fault(7, 1, "4294967296;", 0);
        fault(7, 1, "4294967297;", 0);
        fault(7, 1, "1,18446744073709551616;", 2);
        fault(7, 1, "1".repeat(160), 0);
        fault(7, 1, "1," + "3".repeat(157) + ";", 2);
        fault(7, 2, "1." + "1".repeat(158), 2);
        // Also where the text ends behind it, or goes on wrongly.
        fault(7, 1, "1,7", 2);
        fault(7, 1, "7x", 0);
        fault(7, 2, "7", 0);
    }

    private void elementsTwice() {
        fault(7, 1, "1,1;", 2);
        fault(7, 1, "0,6,0;", 4);
        fault(40, 1, "39,3,9,39;", 7);
        fault(40, 1, "39,3,9;", NONE);
        fault(7, 2, "1.1,1.1;", 4);
        fault(7, 2, "1.0,1.1;", NONE);
        fault(7, 2, "0.1,1.1;", NONE);
        fault(2, 20, "1.19,1.9,1.1,1.19;", 13);
        fault(7, 1, "1,2;3,3;", 6);
    }

    private void appends() {
        b.test(44, "Appends a character to the text", this::appended);
        b.test(44, "character: its code, 32 to 126",
                () -> b.range(States::worked, "append(?)", 32, 7, 126, 7, (x, c) -> x.append(c)));
        b.test(44, "Returns the length of the text", this::lengths);
        b.test(44, "BAD_VALUE", this::badCharacters);
        b.test(44, "FULL if it has 160 characters", this::fullText);
    }

    private void appended() {
        DifferenceFamilies x = States.fresh();
        x.append('6');
        x.append(';');
        b.due("\"6;\"; read()", x.read(), 1);
        b.due("block(0)", x.block(0), 64);
        x.append('0');
        x.append(';');
        b.due("\"6;0;\"; read()", x.read(), 2);
        b.blocks("\"6;0;\"; read()", x, 64, 1);
    }

    private void lengths() {
        b.due("append(32)", States.fresh().append(32), 1);
        DifferenceFamilies x = States.fresh();
        for (int length = 1; length <= 160; length++) {
            b.due("append(48)", x.append(48), length);
        }
        b.due("append(48)", x.append(48), FULL);
        x.clearText();
        b.due("clearText(); append(48)", x.append(48), 1);
    }

    private void badCharacters() {
        // As bytes or as chars, the last ones go round to 48 and 59.
        for (int c : new int[] {0, 31, 127, 128, 255, 256 + 48, 65536 + 59}) {
            b.refused(States::worked, "append(" + c + ")", BAD_VALUE, x -> x.append(c));
            b.refused(States::full, "append(" + c + ")", BAD_VALUE, x -> x.append(c));
        }
    }

    private void fullText() {
        for (int c : new int[] {32, '0', ';', 126}) {
            b.refused(States::full, "append(" + c + ")", FULL, x -> x.append(c));
        }
        DifferenceFamilies x = text(40, 1, States.FULL_TEXT.substring(0, 159));
        b.due("append(59) behind 159 characters", x.append(';'), 160);
        b.due("append(59) behind 160 characters", x.append(';'), FULL);
        b.due("append(59) behind 160 characters", x.append(';'), FULL);
        b.due("clearText()", x.clearText(), 160);
    }

    private void clears() {
        b.test(45, "Empties the text", this::emptied);
        b.test(45, "Returns the length that it had", this::lengthsBefore);
    }

    private void emptied() {
        DifferenceFamilies x = text(7, 1, "x");
        x.clearText();
        b.due("clearText(); faultPosition()", x.faultPosition(), NONE);
        b.due("clearText(); read()", x.read(), 0);
        b.due("clearText(); append(49)", x.append('1'), 1);
        b.due("faultPosition()", x.faultPosition(), 1);
        // Nothing else is emptied.
        DifferenceFamilies y = States.worked();
        y.clearText();
        b.blocks("clearText()", y, 11, 0, 96, 0, 0, 128);
        b.due("clearText(); undo()", y.undo(), 4);
        b.due("clearText(); takeSolution()", y.takeSolution(), 1);
    }

    private void lengthsBefore() {
        b.due("clearText()", States.fresh().clearText(), 0);
        b.due("clearText()", States.worked().clearText(), 6);
        DifferenceFamilies x = States.full();
        b.due("clearText()", x.clearText(), 160);
        b.due("clearText(); clearText()", x.clearText(), 0);
        // The group does not count.
        DifferenceFamilies y = States.full();
        y.setGroup(2, 1);
        b.due("setGroup(2, 1); clearText()", y.clearText(), 160);
    }

    private void faults() {
        b.test(46, "Returns the fault position of the text", this::firstAndLastFault);
        b.test(46, "NONE if it has no fault (also if it is empty)", this::noFault);
    }

    private void firstAndLastFault() {
        fault(7, 1, "x", 0);
        fault(7, 1, "1;".repeat(6) + "x".repeat(148), 12);
        fault(40, 1, States.FULL_TEXT.substring(0, 157) + "18x", 159);
        // The same text has its fault by the group.
        DifferenceFamilies x = text(7, 1, "5,6;");
        b.due("7: faultPosition()", x.faultPosition(), NONE);
        x.setGroup(6, 1);
        b.due("6: faultPosition()", x.faultPosition(), 2);
        x.setGroup(7, 2);
        b.due("7 * 2: faultPosition()", x.faultPosition(), 1);
        x.setGroup(5, 1);
        b.due("5: faultPosition()", x.faultPosition(), 0);
    }

    private void noFault() {
        b.refused(States::fresh, "faultPosition()", NONE, x -> x.faultPosition());
        b.refused(States::worked, "faultPosition()", NONE, x -> x.faultPosition());
        b.refused(States::full, "faultPosition()", NONE, x -> x.faultPosition());
        DifferenceFamilies x = text(7, 1, "x");
        x.clearText();
        b.due("\"x\"; clearText(); faultPosition()", x.faultPosition(), NONE);
    }

    private void reads() {
        b.test(47, "Makes the blocks of the text the base blocks 0, 1, .., in their order", this::readBlocks);
        b.test(47, "the other base blocks become empty", this::otherBlocks);
        b.test(47, "The text stays", this::textStays);
        b.test(47, "Returns the number of blocks of the text", this::numbersOfBlocks);
        b.test(47, "NOT_POSSIBLE if it has a fault", this::faultyTexts);
    }

    private void readBlocks() {
        DifferenceFamilies x = text(7, 1, "6;5,0;4;3;2;1;");
        x.read();
        b.blocks("\"6;5,0;4;3;2;1;\"; read()", x, 64, 33, 16, 8, 4, 2);
        DifferenceFamilies y = text(2, 20, "1.19,0.0;0.19;");
        y.read();
        b.blocks("\"1.19,0.0;0.19;\"; read()", y, 1 | 1L << 39, 1L << 19);
    }

    private void otherBlocks() {
        DifferenceFamilies x = States.worked();
        x.read();
        b.blocks("\"1,2;3;\"; read()", x, 6, 8);
        x.undo();
        b.blocks("undo()", x, 11, 0, 96, 0, 0, 128);
        x.clearText();
        x.read();
        b.blocks("clearText(); read()", x);
    }

    private void textStays() {
        DifferenceFamilies x = States.full();
        x.read();
        b.due("read(); read()", x.read(), 6);
        b.due("read(); append(59)", x.append(';'), FULL);
        b.due("read(); clearText()", x.clearText(), 160);
        DifferenceFamilies y = text(7, 1, "1");
        y.read();
        b.due("read() with a fault; clearText()", y.clearText(), 1);
    }

    private void numbersOfBlocks() {
        b.due("\"\"; read()", States.fresh().read(), 0);
        b.due("\"0;\"; read()", text(7, 1, "0;").read(), 1);
        b.due("\"0;0;0;0;0;0;\"; read()", text(7, 1, "0;0;0;0;0;0;").read(), 6);
        b.due("full text: read()", States.full().read(), 6);
    }

    private void faulty(String text) {
        b.refused(() -> {
            DifferenceFamilies x = States.worked();
            x.clearText();
            Check.appendAll(x, text);
            return x;
        }, "\"" + text + "\"; read()", NOT_POSSIBLE, x -> x.read());
    }

    private void faultyTexts() {
        faulty("x");
        faulty("1");
        faulty("1;2");
        faulty("8;");
        faulty("7;8;");
        faulty("1,1;");
        faulty("1;2;3;4;5;6;7;");
        faulty("1.0;");
        faulty("00;");
    }
}
