/** The sentences of the promises 1 to 9 that name a boundary: each has a test of its own. */
public final class ChangesBoundsTest {
    private static final int NO_SUCH = -1, BAD_VALUE = -2, BAD_TEXT = -3, TOO_MANY = -4, NOT_POSSIBLE = -5, NONE = -6;
    private static final int LEAST = Integer.MIN_VALUE, MOST = Integer.MAX_VALUE;
    private static final Due DUE = new Due();

    private ChangesBoundsTest() {
    }

    public static void main(String[] args) {
        newObject();
        setReturnsThePrevious();
        setLeavesTheRoll();
        setOfNoSetting();
        ringEmptiesThePad();
        ringWithALongPad();
        ringBadText();
        ringTooMany();
        strikeReturnsTheSum();
        strikeOfItems();
        strikeOfClosedOnes();
        closeNumbers();
        closeLeavesNothing();
        closePriorities();
        closeWithoutItems();
        closeTen();
        hurryPriorities();
        hurryUnknown();
        hurryWaiting();
        newRollWhole();
        newRollOut();
        newRollWhilePrinted();
        tearRange();
        tearAsManyAsWere();
        tearAgain();
        tearWithoutAReceipt();
        passRange();
        passLines();
        passUpTo9999();
        DUE.end();
    }

    private static void due(String call, long got, long want) {
        DUE.due(call, got, want);
    }

    private static void dueLine(Rolls x, int receipt, int line, String want) {
        DUE.due("line " + line + " of " + receipt, Due.line(x, receipt, line), want);
    }

    private static void newObject() {
        DUE.part("promise 1: tills without items, and a printer with a new roll");
        Rolls x = new Rolls();
        int[] counts = {0, 0, 0, 0, 0, 24, 40, 2, 0, 0};
        for (int what = 0; what < counts.length; what++) {
            due("count(" + what + ")", x.count(what), counts[what]);
        }
        int[] printer = {NONE, 40, 0, 0, 1, 0};
        for (int what = 0; what < printer.length; what++) {
            due("printer(" + what + ")", x.printer(what), printer[what]);
        }
        due("waiting(0)", x.waiting(0), NO_SUCH);
        due("doneIn(1)", x.doneIn(1), NO_SUCH);
        due("linesLeft()", x.linesLeft(), 0);
        due("outIn()", x.outIn(), NONE);
        due("fault()", x.fault(), 0);
        due("wipe()", x.wipe(), 0);
        due("undo()", x.undo(), NOT_POSSIBLE);
        due("restore(0)", x.restore(0), NOT_POSSIBLE);
        due("restore(1)", x.restore(1), NOT_POSSIBLE);
        due("between totals", x.between(LEAST, MOST, 0), 0);
        due("between how many", x.between(LEAST, MOST, 1), 0);
        due("between the greatest", x.between(LEAST, MOST, 2), NONE);
    }

    private static void setReturnsThePrevious() {
        DUE.part("promise 2: returns the previous value");
        int[][] ranges = {{16, 40, 24}, {5, 200, 40}, {1, 9, 2}};
        for (int setting = 0; setting < 3; setting++) {
            Rolls x = new Rolls();
            int previous = ranges[setting][2];
            for (int value = ranges[setting][0]; value <= ranges[setting][1]; value++) {
                due("set(" + setting + ", " + value + ")", x.set(setting, value), previous);
                due("it is set", x.count(5 + setting), value);
                previous = value;
            }
            for (int other = 0; other < 3; other++) {
                due("the others stay", x.count(5 + other), ranges[other][other == setting ? 1 : 2]);
            }
        }
    }

    private static void setLeavesTheRoll() {
        DUE.part("promise 2: (the roll stays as it is)");
        Rolls x = new Rolls();
        x.set(ReceiptRolls.ROLL, 5);
        due("left", x.printer(1), 40);
        x.set(ReceiptRolls.ROLL, 200);
        due("left", x.printer(1), 40);
        due("rolls", x.printer(4), 1);
        due("thrown away", x.printer(5), 0);
    }

    private static void setOfNoSetting() {
        DUE.part("promise 2: BAD_VALUE if there is no such setting");
        Rolls x = new Rolls();
        for (int setting : new int[] {-1, 3, LEAST, MOST}) {
            for (int value : new int[] {5, 9, 16, 40, 200}) {
                due("set(" + setting + ", " + value + ")", x.set(setting, value), BAD_VALUE);
            }
        }
        due("no change", x.count(9), 0);
    }

    private static void ringEmptiesThePad() {
        DUE.part("promise 3: rings an item with the name that the pad tells, and empties the pad");
        Rolls x = new Rolls();
        x.put('z');
        due("ring", x.ring(0, 1, 1, 0), 0);
        due("length of the pad", x.count(8), 0);
        due("wipe", x.wipe(), 0);
        due("without a name", x.ring(0, 1, 1, 0), BAD_TEXT);
        Due.put(x, Made.THIRTY);
        due("ring", x.ring(0, 1, 1, 0), 1);
        due("length of the pad", x.count(8), 0);
        due("the first name", x.item(0, 0, 6), 1);
        due("the second name", x.item(0, 1, 6), 30);
        dueLine(x, 0, 1, "z                   0.01");
    }

    private static void ringWithALongPad() {
        DUE.part("promise 3: BAD_TEXT if the pad has a fault: its length");
        Rolls x = new Rolls();
        Due.put(x, Made.THIRTY + "a");
        due("31", x.ring(0, 1, 1, 0), BAD_TEXT);
        Due.put(x, Made.THIRTY + Made.THIRTY.substring(0, 19));
        due("80", x.count(8), 80);
        due("80", x.ring(0, 1, 1, 0), BAD_TEXT);
        due("no item", x.ofTill(0, 0), 0);
    }

    private static void ringBadText() {
        DUE.part("promise 3: BAD_TEXT if the pad has a fault: its characters");
        for (String pad : new String[] {"", "_", "A", "a_", "_a", "a__b", "a-b", "a1"}) {
            Rolls x = new Rolls();
            Due.put(x, pad);
            due("ring " + pad, x.ring(0, 1, 1, 0), BAD_TEXT);
            due("the pad stays", x.count(8), pad.length());
            due("no item", x.ofTill(0, 0), 0);
        }
    }

    private static void ringTooMany() {
        DUE.part("promise 3: TOO_MANY if the receipt has 12 items");
        for (int till = 0; till <= 2; till++) {
            Rolls x = new Rolls();
            for (int i = 0; i < 12; i++) {
                due("ring", Due.ring(x, till, "a", 1, 1, 0), i);
            }
            Made.named(x);
            due("the thirteenth", x.ring(till, 1, 1, 0), TOO_MANY);
            due("items", x.ofTill(till, 0), 12);
            due("undo the twelfth", x.undo(), 5);
            due("the twelfth again", x.ring(till, 1, 1, 0), 11);
            due("its name", x.item(till, 11, 6), 4);
        }
    }

    private static void strikeReturnsTheSum() {
        DUE.part("promise 4: returns its sum");
        Rolls x = new Rolls();
        Due.ring(x, 0, "a", 1, 1, 0);
        Due.ring(x, 0, "b", 99, 9999, 2);
        due("the least", x.strike(0, 0), 1);
        due("the greatest", x.strike(0, 1), 989901);
        due("the total", x.ofTill(0, 2), 0);
    }

    private static void strikeOfItems() {
        DUE.part("promise 4: NO_SUCH if there is no such item");
        Rolls x = new Rolls();
        due("without items", x.strike(0, 0), NO_SUCH);
        Due.ring(x, 0, "a", 1, 7, 0);
        due("-1", x.strike(0, -1), NO_SUCH);
        due("1", x.strike(0, 1), NO_SUCH);
        due("0 of another till", x.strike(1, 0), NO_SUCH);
        due("0", x.strike(0, 0), 7);
        Made.fillTill(x, 0);
        due("12", x.strike(0, 12), NO_SUCH);
        due("11", x.strike(0, 11), 100);
        due("LEAST", x.strike(0, LEAST), NO_SUCH);
        due("MOST", x.strike(0, MOST), NO_SUCH);
    }

    private static void strikeOfClosedOnes() {
        DUE.part("promise 4: an item of the open receipt");
        Rolls x = new Rolls();
        Due.ring(x, 0, "a", 1, 7, 0);
        x.strike(0, 0);
        x.close(0, 0);
        due("closed", x.strike(0, 0), NO_SUCH);
        Due.ring(x, 0, "b", 1, 8, 0);
        due("the next one is not struck", x.item(0, 0, 4), 0);
        due("strike it", x.strike(0, 0), 8);
        due("struck so far", x.count(4), 2);
    }

    private static void closeNumbers() {
        DUE.part("promise 5: 1 for the first one that is closed, and so on");
        Rolls x = new Rolls();
        for (int i = 1; i <= 10; i++) {
            due("close", Made.closeOne(x, 2 - i % 3, 0), i);
            due("closed so far", x.count(1), i);
            due("its till", x.ofReceipt(i, 1), 2 - i % 3);
        }
        due("undo", x.undo(), 5);
        due("closed so far", x.count(1), 9);
        due("the same number", x.close(2 - 10 % 3, 0), 10);
    }

    private static void closeLeavesNothing() {
        DUE.part("promise 5: the next one is without items");
        Rolls x = new Rolls();
        for (int i = 0; i < 12; i++) {
            Due.ring(x, 1, "a", 99, 9999, 1 + i % 2);
            x.strike(1, i);
        }
        due("close", x.close(1, 0), 1);
        int[] empty = {0, 0, 0, 2, 0, 0};
        for (int what = 0; what < empty.length; what++) {
            due("ofTill(1, " + what + ")", x.ofTill(1, what), empty[what]);
        }
        due("item(1, 0, 0)", x.item(1, 0, 0), NO_SUCH);
        dueLine(x, -1, 0, "#2                      ");
        dueLine(x, -1, 1, "sum                 0.00");
        dueLine(x, -1, 2, "none");
    }

    private static void closePriorities() {
        DUE.part("promise 5: priority: 0 to 3");
        Rolls x = new Rolls();
        Due.ring(x, 0, "a", 1, 1, 0);
        for (int priority : new int[] {-1, 4, LEAST, MOST}) {
            due("close(0, " + priority + ")", x.close(0, priority), BAD_VALUE);
        }
        for (int priority = 0; priority <= 3; priority++) {
            due("close(0, " + priority + ")", x.close(0, priority), priority + 1);
            due("its priority", x.ofReceipt(priority + 1, 2), priority);
            Due.ring(x, 0, "a", 1, 1, 0);
        }
    }

    private static void closeWithoutItems() {
        DUE.part("promise 5: NOT_POSSIBLE if it has no items");
        Rolls x = new Rolls();
        due("none", x.close(0, 0), NOT_POSSIBLE);
        Due.ring(x, 0, "a", 1, 1, 0);
        due("none in another till", x.close(1, 0), NOT_POSSIBLE);
        x.strike(0, 0);
        due("one that is struck", x.close(0, 0), 1);
        due("none any more", x.close(0, 0), NOT_POSSIBLE);
        due("lines", x.ofReceipt(1, 6), 4);
    }

    private static void closeTen() {
        DUE.part("promise 5: TOO_MANY if 10 receipts are closed and not done");
        Rolls x = new Rolls();
        x.set(ReceiptRolls.SPEED, 1);
        for (int i = 1; i <= 10; i++) {
            due("close", Made.closeOne(x, 0, 0), i);
        }
        due("the eleventh", Made.closeOne(x, 0, 0), TOO_MANY);
        x.pass(1);
        due("one is printed", x.close(0, 0), TOO_MANY);
        x.pass(1);
        due("its last line is missing", x.close(0, 0), TOO_MANY);
        x.pass(1);
        due("one is done", x.close(0, 0), 11);
        due("the twelfth", Made.closeOne(x, 0, 0), TOO_MANY);
        x.pass(27);
        due("10 are done", x.count(3), 10);
        due("the twelfth", x.close(0, 0), 12);
        for (int i = 13; i <= 20; i++) {
            due("close", Made.closeOne(x, 0, 0), i);
        }
        due("11 and 12 to 20 wait", Made.closeOne(x, 0, 0), TOO_MANY);
    }

    private static void hurryPriorities() {
        DUE.part("promise 6: priority: 0 to 3; returns the previous one");
        Rolls x = new Rolls();
        Made.closeOne(x, 0, 2);
        int previous = 2;
        for (int priority : new int[] {0, 0, 1, 2, 3, 3, 0}) {
            due("hurry(1, " + priority + ")", x.hurry(1, priority), previous);
            due("its priority", x.ofReceipt(1, 2), priority);
            previous = priority;
        }
        for (int priority : new int[] {-1, 4, LEAST, MOST}) {
            due("hurry(1, " + priority + ")", x.hurry(1, priority), BAD_VALUE);
        }
        due("its priority", x.ofReceipt(1, 2), 0);
    }

    private static void hurryUnknown() {
        DUE.part("promise 6: NO_SUCH if the ledger does not know the receipt");
        Rolls x = new Rolls();
        due("none is closed", x.hurry(1, 0), NO_SUCH);
        Due.ring(x, 0, "a", 1, 1, 0);
        due("an open one", x.hurry(0, 0), NO_SUCH);
        due("an open one", x.hurry(1, 0), NO_SUCH);
        due("an open one", x.hurry(-1, 0), NO_SUCH);
        x.close(0, 0);
        due("it is known", x.hurry(1, 1), 0);
        due("the next one is not", x.hurry(2, 1), NO_SUCH);
        x.set(ReceiptRolls.SPEED, 9);
        for (int i = 2; i <= 9; i++) {
            x.pass(1);
            Made.closeOne(x, 0, 0);
        }
        due("8 are done", x.count(3), 8);
        due("done and known", x.hurry(1, 0), NOT_POSSIBLE);
        x.pass(1);
        due("done and forgotten", x.hurry(1, 0), NO_SUCH);
        due("done and known", x.hurry(2, 0), NOT_POSSIBLE);
    }

    private static void hurryWaiting() {
        DUE.part("promise 6: NOT_POSSIBLE if it does not wait");
        Rolls x = new Rolls();
        x.set(ReceiptRolls.SPEED, 1);
        Made.closeOne(x, 0, 0);
        due("it waits", x.hurry(1, 3), 0);
        x.pass(1);
        due("its first line is printed", x.hurry(1, 1), NOT_POSSIBLE);
        x.tear(1);
        due("no line of it stands", x.hurry(1, 1), NOT_POSSIBLE);
        x.pass(3);
        due("it is done", x.hurry(1, 1), NOT_POSSIBLE);
        due("its priority", x.ofReceipt(1, 2), 3);
    }

    private static void newRollWhole() {
        DUE.part("promise 7: what was left of the old one is thrown away: a whole roll");
        Rolls x = new Rolls();
        due("newRoll", x.newRoll(), 40);
        due("thrown away", x.printer(5), 40);
        due("rolls", x.printer(4), 2);
        due("newRoll", x.newRoll(), 40);
        due("thrown away", x.printer(5), 80);
        due("rolls", x.printer(4), 3);
        due("left", x.printer(1), 40);
    }

    private static void newRollOut() {
        DUE.part("promise 7: returns how many lines were left: none");
        Rolls x = new Rolls();
        Made.rollOut(x);
        int thrown = x.printer(5);
        int rolls = x.printer(4);
        due("newRoll", x.newRoll(), 0);
        due("thrown away", x.printer(5), thrown);
        due("rolls", x.printer(4), rolls + 1);
        due("left", x.printer(1), 5);
        x.pass(1);
        due("newRoll with one line less", x.newRoll(), 4);
        due("thrown away", x.printer(5), thrown + 4);
    }

    private static void newRollWhilePrinted() {
        DUE.part("promise 7: a new roll changes nothing of the receipt that is printed");
        Rolls x = new Rolls();
        x.set(ReceiptRolls.SPEED, 1);
        Made.closeOne(x, 0, 0);
        x.pass(2);
        due("newRoll", x.newRoll(), 38);
        due("lines of it", x.ofReceipt(1, 7), 2);
        due("it is printed", x.printer(0), 1);
        due("lines so far", x.printer(2), 2);
        due("tear", x.tear(2), 2);
        due("all of it", x.pass(9), 3);
    }

    /** A receipt of 98 lines, the most that there may be: items of 7 lines, 10 of them struck, and both taxes. */
    private static Rolls longest() {
        Rolls x = new Rolls();
        x.set(ReceiptRolls.WIDTH, 16);
        x.set(ReceiptRolls.ROLL, 200);
        x.set(ReceiptRolls.SPEED, 1);
        x.newRoll();
        for (int i = 0; i < 12; i++) {
            Due.ring(x, 0, "abcde_abcd_abcd_abcd_abcd_abcd", 99, 9999, 1 + i % 2);
            due("lines of an item", x.item(0, i, 5), 7);
            if (i < 10) {
                x.strike(0, i);
            }
        }
        x.close(0, 0);
        due("lines", x.ofReceipt(1, 6), 98);
        return x;
    }

    private static void tearRange() {
        DUE.part("promise 8: lines: 1 to 99");
        Rolls x = longest();
        x.pass(97);
        for (int lines : new int[] {0, 100, -1, LEAST, MOST}) {
            due("tear(" + lines + ")", x.tear(lines), BAD_VALUE);
        }
        due("tear(99)", x.tear(99), NOT_POSSIBLE);
        due("tear(98)", x.tear(98), NOT_POSSIBLE);
        due("tear(1)", x.tear(1), 1);
        due("lines of it", x.ofReceipt(1, 7), 96);
        x.pass(1);
        due("tear(97)", x.tear(97), 97);
        due("lines of it", x.ofReceipt(1, 7), 0);
        due("spoilt", x.printer(3), 98);
        due("the roll", x.printer(1), 102);
        due("printed anew", x.pass(98), 98);
        due("done", x.ofReceipt(1, 0), 2);
    }

    private static void tearAsManyAsWere() {
        DUE.part("promise 8: NOT_POSSIBLE if fewer lines of it were");
        for (int printed = 1; printed <= 2; printed++) {
            Rolls x = new Rolls();
            x.set(ReceiptRolls.SPEED, 1);
            Made.closeOne(x, 0, 0);
            x.pass(3);
            Made.closeOne(x, 0, 0);
            x.pass(printed);
            due("one more than of it", x.tear(printed + 1), NOT_POSSIBLE);
            due("all of it", x.tear(printed), printed);
            due("lines of it", x.ofReceipt(2, 7), 0);
            due("the one that is done keeps its lines", x.ofReceipt(1, 7), 3);
        }
    }

    private static void tearAgain() {
        DUE.part("promise 8: lines that were torn are not torn again");
        Rolls x = longest();
        x.pass(15);
        // 0: head, 1 to 7: item 0, 8: void 0, 9 to 15: item 1, of which one line is missing.
        due("the last of item 1, and its others", x.tear(1), 6);
        due("what is left", x.tear(10), NOT_POSSIBLE);
        due("the void", x.tear(1), 1);
        due("from the middle of item 0", x.tear(4), 7);
        due("the head", x.tear(2), NOT_POSSIBLE);
        due("the head", x.tear(1), 1);
        due("nothing", x.tear(1), NOT_POSSIBLE);
        due("spoilt or anew", x.printer(3), 15);
        due("lines left", x.linesLeft(), 98);
    }

    private static void tearWithoutAReceipt() {
        DUE.part("promise 8: NOT_POSSIBLE if no receipt is printed");
        Rolls x = new Rolls();
        due("none is closed", x.tear(1), NOT_POSSIBLE);
        Made.closeOne(x, 0, 0);
        due("it waits", x.tear(1), NOT_POSSIBLE);
        x.pass(9);
        due("it is done", x.tear(1), NOT_POSSIBLE);
        due("nothing is spoilt", x.printer(3), 0);
    }

    private static void passRange() {
        DUE.part("promise 9: ticks: 1 to 99");
        Rolls x = new Rolls();
        for (int ticks : new int[] {0, 100, -1, LEAST, MOST}) {
            due("pass(" + ticks + ")", x.pass(ticks), BAD_VALUE);
        }
        due("none passed", x.count(0), 0);
        due("pass(1)", x.pass(1), 0);
        due("one passed", x.count(0), 1);
        due("pass(99)", x.pass(99), 0);
        due("99 more", x.count(0), 100);
    }

    private static void passLines() {
        DUE.part("promise 9: returns how many lines are printed in them");
        Rolls x = longest();
        x.set(ReceiptRolls.SPEED, 9);
        due("90", x.pass(10), 90);
        due("8", x.pass(10), 8);
        due("none", x.pass(10), 0);
        due("in the 11th tick", x.ofReceipt(1, 9), 10);
        due("lines so far", x.printer(2), 98);
        x.undo();
        x.undo();
        x.tear(90);
        x.newRoll();
        due("all of them in one call", x.pass(99), 98);
        due("lines so far", x.printer(2), 188);
    }

    private static void passUpTo9999() {
        DUE.part("promise 9: NOT_POSSIBLE if there would be more than 9999 ticks");
        Rolls x = new Rolls();
        Made.passAll(x, 9899);
        due("ticks", x.count(0), 9899);
        x.save(0);
        due("99 of 100", x.pass(99), 0);
        due("two of one", x.pass(2), NOT_POSSIBLE);
        due("99 of one", x.pass(99), NOT_POSSIBLE);
        Made.closeOne(x, 0, 0);
        x.set(ReceiptRolls.SPEED, 9);
        due("one of one", x.pass(1), 3);
        due("ticks", x.count(0), 9999);
        due("done in the last tick", x.ofReceipt(1, 9), 9998);
        due("one of none", x.pass(1), NOT_POSSIBLE);
        due("ticks", x.count(0), 9999);
        due("back to 9899", x.restore(0), 0);
        due("one", x.pass(1), 0);
        due("just as many", x.pass(99), 0);
        due("one of none", x.pass(1), NOT_POSSIBLE);
    }
}
