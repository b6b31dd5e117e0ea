/** The sentences of the promises 10 to 22 that name a boundary: each has a test of its own. */
public final class AnswersBoundsTest {
    private static final int NO_SUCH = -1, BAD_VALUE = -2, NOT_POSSIBLE = -5, NONE = -6;
    private static final int LEAST = Integer.MIN_VALUE, MOST = Integer.MAX_VALUE;
    private static final Due DUE = new Due();

    private AnswersBoundsTest() {
    }

    public static void main(String[] args) {
        itemWhat();
        itemOfNone();
        itemLines();
        ofTillWhat();
        ofTillEmptyAndFull();
        ofReceiptWhat();
        ofReceiptStages();
        ofReceiptKnown();
        ofReceiptTicks();
        signReceipts();
        signLines();
        signColumns();
        waitingRanks();
        waitingOrder();
        printerWhat();
        printerLines();
        countWhat();
        countUpAndDown();
        betweenNumbers();
        betweenNone();
        betweenTheMost();
        doneInZero();
        doneInLines();
        doneInRollOut();
        doneInOrder();
        linesLeft();
        outInNow();
        outInOne();
        outInLines();
        outInNone();
        ticksDoNotMatter();
        bestWidthEnds();
        bestWidthLeast();
        ifStruck();
        DUE.end();
    }

    private static void due(String call, long got, long want) {
        DUE.due(call, got, want);
    }

    /** Closes so many receipts of 3 lines each. */
    private static Rolls closed(int many, int speed) {
        Rolls x = new Rolls();
        x.set(ReceiptRolls.SPEED, speed);
        for (int i = 0; i < many; i++) {
            Made.closeOne(x, 0, 0);
        }
        return x;
    }

    private static void roll(Rolls x, int lines) {
        x.set(ReceiptRolls.ROLL, lines);
        x.newRoll();
    }

    private static void itemWhat() {
        DUE.part("promise 10: what: 0 how many, .. 6 the length of its name");
        Rolls x = new Rolls();
        Due.ring(x, 0, "a", 1, 1, 0);
        Due.ring(x, 0, Made.THIRTY, 99, 9999, 2);
        x.strike(0, 1);
        int[] least = {1, 1, 0, 1, 0, 1, 1};
        int[] most = {99, 9999, 2, 989901, 1, 3, 30};
        for (int what = 0; what <= 6; what++) {
            due("item(0, 0, " + what + ")", x.item(0, 0, what), least[what]);
            due("item(0, 1, " + what + ")", x.item(0, 1, what), most[what]);
        }
        for (int what : new int[] {-1, 7, LEAST, MOST}) {
            due("item(0, 0, " + what + ")", x.item(0, 0, what), BAD_VALUE);
        }
    }

    private static void itemOfNone() {
        DUE.part("promise 10: NO_SUCH if there is no such till or item");
        Rolls x = new Rolls();
        due("without items", x.item(0, 0, 0), NO_SUCH);
        Due.ring(x, 0, "a", 1, 1, 0);
        due("0", x.item(0, 0, 0), 1);
        due("1", x.item(0, 1, 0), NO_SUCH);
        due("-1", x.item(0, -1, 0), NO_SUCH);
        Made.fillTill(x, 0);
        due("11", x.item(0, 11, 0), 1);
        due("12", x.item(0, 12, 0), NO_SUCH);
        x.close(0, 0);
        due("closed", x.item(0, 0, 0), NO_SUCH);
        due("closed", x.item(0, 11, 0), NO_SUCH);
    }

    private static void itemLines() {
        DUE.part("promise 10: 5 how many lines it takes as it is rung");
        Rolls x = new Rolls();
        Due.ring(x, 0, "abcde_abcd_abcd_abcd_abcd_abcd", 99, 1, 0);
        Due.ring(x, 0, "a", 1, 1, 0);
        x.set(ReceiptRolls.WIDTH, 16);
        due("the most", x.item(0, 0, 5), 7);
        due("the fewest", x.item(0, 1, 5), 1);
        x.strike(0, 0);
        due("its void does not count", x.item(0, 0, 5), 7);
        x.set(ReceiptRolls.WIDTH, 40);
        due("at the widest", x.item(0, 0, 5), 2);
    }

    private static void ofTillWhat() {
        DUE.part("promise 11: what: 0 its items, .. 4, 5 the tax of the rates 7, 19");
        Rolls x = new Rolls();
        Due.ring(x, 2, "a", 1, 107, 1);
        Due.ring(x, 2, "b", 1, 119, 2);
        Due.ring(x, 2, "c", 1, 1000, 0);
        x.strike(2, 2);
        int[] want = {3, 1, 226, 8, 7, 19};
        for (int what = 0; what <= 5; what++) {
            due("ofTill(2, " + what + ")", x.ofTill(2, what), want[what]);
        }
        for (int what : new int[] {-1, 6, LEAST, MOST}) {
            due("ofTill(2, " + what + ")", x.ofTill(2, what), BAD_VALUE);
        }
    }

    private static void ofTillEmptyAndFull() {
        DUE.part("promise 11: without items, and with as many as there may be");
        Rolls x = new Rolls();
        int[] empty = {0, 0, 0, 2, 0, 0};
        int[] rung = {12, 0, 11878812, 15, 0, 1896617};
        int[] struck = {12, 12, 0, 26, 0, 0};
        for (int what = 0; what <= 5; what++) {
            due("empty: " + what, x.ofTill(0, what), empty[what]);
        }
        for (int i = 0; i < 12; i++) {
            Due.ring(x, 0, "a", 99, 9999, 2);
        }
        for (int what = 0; what <= 5; what++) {
            due("rung: " + what, x.ofTill(0, what), rung[what]);
        }
        for (int i = 0; i < 12; i++) {
            x.strike(0, i);
        }
        for (int what = 0; what <= 5; what++) {
            due("struck: " + what, x.ofTill(0, what), struck[what]);
        }
    }

    private static void ofReceiptWhat() {
        DUE.part("promise 12: what: 0 how it is, .. 9 the tick in which it was done");
        Rolls x = new Rolls();
        x.set(ReceiptRolls.WIDTH, 40);
        Due.ring(x, 2, "a", 2, 107, 1);
        Due.ring(x, 2, "b", 1, 119, 2);
        x.strike(2, 0);
        x.close(2, 3);
        x.set(ReceiptRolls.WIDTH, 16);
        int[] want = {0, 2, 3, 2, 1, 119, 6, 0, 40, NONE};
        for (int what = 0; what <= 9; what++) {
            due("ofReceipt(1, " + what + ")", x.ofReceipt(1, what), want[what]);
        }
        for (int what : new int[] {-1, 10, LEAST, MOST}) {
            due("ofReceipt(1, " + what + ")", x.ofReceipt(1, what), BAD_VALUE);
        }
        due("nothing is known of tills", x.ofReceipt(0, 0), NO_SUCH);
    }

    private static void ofReceiptStages() {
        DUE.part("promise 12: 0 it waits, 1 is printed, 2 is done; 7 lines of it that are printed and not spoilt");
        Rolls x = closed(2, 1);
        int[] lines = {0, 1, 2, 3};
        int[] stages = {0, 1, 1, 2};
        for (int i = 0; i < lines.length; i++) {
            due("stage", x.ofReceipt(1, 0), stages[i]);
            due("lines", x.ofReceipt(1, 7), lines[i]);
            due("the other waits", x.ofReceipt(2, 0), 0);
            due("none of the other", x.ofReceipt(2, 7), 0);
            x.pass(1);
        }
        x.tear(1);
        due("all lines of it spoilt", x.ofReceipt(2, 7), 0);
        due("it is printed", x.ofReceipt(2, 0), 1);
    }

    private static void ofReceiptKnown() {
        DUE.part("promise 12: NO_SUCH if the ledger does not know it");
        Rolls x = closed(9, 9);
        due("0", x.ofReceipt(0, 0), NO_SUCH);
        due("-1", x.ofReceipt(-1, 0), NO_SUCH);
        due("10", x.ofReceipt(10, 0), NO_SUCH);
        due("LEAST", x.ofReceipt(LEAST, 0), NO_SUCH);
        due("MOST", x.ofReceipt(MOST, 0), NO_SUCH);
        due("1", x.ofReceipt(1, 0), 0);
        due("9", x.ofReceipt(9, 0), 0);
        x.pass(2);
        x.pass(1);
        due("1, the ninth from the end", x.ofReceipt(1, 0), NO_SUCH);
        due("2, the eighth from the end", x.ofReceipt(2, 0), 2);
        due("9", x.ofReceipt(9, 0), 2);
    }

    private static void ofReceiptTicks() {
        DUE.part("promise 12: 9 the tick in which it was done, the first one being 0 (NONE)");
        Rolls x = closed(4, 3);
        due("it waits", x.ofReceipt(1, 9), NONE);
        x.pass(1);
        due("in the first", x.ofReceipt(1, 9), 0);
        x.set(ReceiptRolls.SPEED, 2);
        x.pass(1);
        due("it is printed", x.ofReceipt(2, 9), NONE);
        x.pass(1);
        due("in the third", x.ofReceipt(2, 9), 2);
        x.pass(99);
        due("in the middle of a pass", x.ofReceipt(3, 9), 3);
        due("in the middle of a pass", x.ofReceipt(4, 9), 5);
    }

    private static void signReceipts() {
        DUE.part("promise 13: the number of a receipt that the ledger knows; or 0, -1, -2 for the open receipts");
        Rolls x = closed(9, 9);
        Due.ring(x, 0, "x", 1, 1, 0);
        Due.ring(x, 1, "y", 1, 1, 0);
        Due.ring(x, 2, "z", 1, 1, 0);
        due("till 0", x.sign(0, 1, 0), 'x');
        due("till 1", x.sign(-1, 1, 0), 'y');
        due("till 2", x.sign(-2, 1, 0), 'z');
        for (int receipt : new int[] {-3, 10, LEAST, MOST}) {
            due("sign(" + receipt + ", 0, 0)", x.sign(receipt, 0, 0), NO_SUCH);
        }
        due("1", x.sign(1, 0, 1), '1');
        due("9", x.sign(9, 0, 1), '9');
        x.pass(3);
        due("forgotten", x.sign(1, 0, 1), NO_SUCH);
        due("done and known", x.sign(2, 0, 1), '2');
    }

    private static void signLines() {
        DUE.part("promise 13: NO_SUCH if there is no such line");
        Rolls x = closed(1, 1);
        for (int line : new int[] {-1, 3, 32, LEAST, MOST}) {
            due("sign(1, " + line + ", 0)", x.sign(1, line, 0), NO_SUCH);
        }
        for (int line : new int[] {-1, 2, LEAST, MOST}) {
            due("sign(0, " + line + ", 0)", x.sign(0, line, 0), NO_SUCH);
        }
        due("the first", x.sign(1, 0, 0), '#');
        due("the last", x.sign(1, 2, 0), 's');
        due("the first of an open one", x.sign(0, 0, 0), '#');
        due("the last of an open one", x.sign(0, 1, 0), 's');
    }

    private static void signColumns() {
        DUE.part("promise 13: BAD_VALUE if column is not 0 to WIDTH - 1, by the width of the receipt");
        for (int width : new int[] {16, 24, 40}) {
            Rolls x = new Rolls();
            x.set(ReceiptRolls.WIDTH, width);
            Made.closeOne(x, 0, 0);
            x.set(ReceiptRolls.WIDTH, 30);
            for (int line = 0; line <= 2; line++) {
                due("-1", x.sign(1, line, -1), BAD_VALUE);
                due("WIDTH", x.sign(1, line, width), BAD_VALUE);
                due("LEAST", x.sign(1, line, LEAST), BAD_VALUE);
                due("MOST", x.sign(1, line, MOST), BAD_VALUE);
                due("the last place", x.sign(1, line, width - 1), line == 0 ? ' ' : '0');
            }
            due("an open one: 29", x.sign(0, 0, 29), ' ');
            due("an open one: 30", x.sign(0, 0, 30), BAD_VALUE);
        }
    }

    private static void waitingRanks() {
        DUE.part("promise 14: NO_SUCH if there are not so many");
        for (int many = 0; many <= 10; many++) {
            Rolls x = closed(many, 1);
            for (int rank = 0; rank < many; rank++) {
                due("waiting(" + rank + ")", x.waiting(rank), rank + 1);
            }
            due("waiting(" + many + ")", x.waiting(many), NO_SUCH);
            due("waiting(-1)", x.waiting(-1), NO_SUCH);
            due("waiting(LEAST)", x.waiting(LEAST), NO_SUCH);
            due("waiting(MOST)", x.waiting(MOST), NO_SUCH);
            x.pass(1);
            due("one of them is printed", x.waiting(many - 1), NO_SUCH);
            due("how many wait", x.count(2), Math.max(0, many - 1));
        }
    }

    private static void waitingOrder() {
        DUE.part("promise 14: in the order in which the printer would take them");
        Rolls x = new Rolls();
        int[] given = {0, 3, 0, 3, 1, 2, 1, 2, 3, 0};
        int[] order = {2, 4, 9, 6, 8, 5, 7, 1, 3, 10};
        for (int priority : given) {
            Made.closeOne(x, 0, priority);
        }
        for (int rank = 0; rank < 10; rank++) {
            due("waiting(" + rank + ")", x.waiting(rank), order[rank]);
        }
        x.hurry(10, 3);
        due("behind those with the same priority", x.waiting(3), 10);
        x.hurry(2, 0);
        due("behind those with lower numbers", x.waiting(8), 2);
        due("ahead of those with higher ones", x.waiting(9), 3);
    }

    private static void printerWhat() {
        DUE.part("promise 15: what: 0 the receipt that it prints (NONE), .. 5 lines of rolls that were thrown away");
        Rolls x = closed(1, 1);
        due("none is printed", x.printer(0), NONE);
        x.pass(2);
        x.tear(1);
        x.newRoll();
        int[] want = {1, 40, 2, 1, 2, 38};
        for (int what = 0; what <= 5; what++) {
            due("printer(" + what + ")", x.printer(what), want[what]);
        }
        for (int what : new int[] {-1, 6, LEAST, MOST}) {
            due("printer(" + what + ")", x.printer(what), BAD_VALUE);
        }
        x.pass(2);
        due("none is printed", x.printer(0), NONE);
    }

    private static void printerLines() {
        DUE.part("promise 15: 1 lines left of the roll, from all to none");
        for (int lines : new int[] {5, 200}) {
            Rolls x = new Rolls();
            x.set(ReceiptRolls.WIDTH, 16);
            x.set(ReceiptRolls.SPEED, 1);
            roll(x, lines);
            for (int i = 0; i < 4; i++) {
                for (int item = 0; item < 12; item++) {
                    Due.ring(x, i % 3, Made.THIRTY, 1, 1, 0);
                }
                x.close(i % 3, 0);
            }
            due("all", x.printer(1), lines);
            due("200 lines to print", x.linesLeft(), 200);
            for (int left = lines - 1; left > 0; left -= 66) {
                due("lines", x.pass(left == lines - 1 ? 1 : 66), left == lines - 1 ? 1 : 66);
                due("left", x.printer(1), left);
            }
            x.pass(99);
            due("none", x.printer(1), 0);
            due("so far", x.printer(2), lines);
            due("no more", x.pass(99), 0);
            due("none", x.printer(1), 0);
        }
    }

    private static void countWhat() {
        DUE.part("promise 16: what: 0 ticks so far, .. 9 how many changes can be undone");
        Rolls x = closed(5, 2);
        x.pass(2);
        Due.ring(x, 0, "a", 1, 1, 0);
        x.strike(0, 0);
        x.set(ReceiptRolls.WIDTH, 33);
        x.set(ReceiptRolls.ROLL, 77);
        Due.put(x, "abcdefghijk");
        int[] want = {2, 5, 3, 1, 1, 33, 77, 2, 11, 6};
        for (int what = 0; what <= 9; what++) {
            due("count(" + what + ")", x.count(what), want[what]);
        }
        for (int what : new int[] {-1, 10, LEAST, MOST}) {
            due("count(" + what + ")", x.count(what), BAD_VALUE);
        }
    }

    private static void countUpAndDown() {
        DUE.part("promise 16: done, forgotten ones, too; struck, closed ones, too");
        Rolls x = closed(9, 9);
        x.pass(3);
        due("9 are done, 8 of them known", x.count(3), 9);
        due("known", x.between(1, 9, 1), 8);
        due("none waits", x.count(2), 0);
        Due.ring(x, 0, "a", 1, 1, 0);
        x.strike(0, 0);
        x.close(0, 0);
        Due.ring(x, 0, "a", 1, 1, 0);
        x.strike(0, 0);
        due("struck", x.count(4), 2);
        x.undo();
        due("struck", x.count(4), 1);
        due("one waits", x.count(2), 1);
        x.pass(1);
        due("10 are done", x.count(3), 10);
        due("closed", x.count(1), 10);
    }

    private static void betweenNumbers() {
        DUE.part("promise 17: with numbers from one to another one; BAD_VALUE if to is less than from");
        Rolls x = new Rolls();
        for (int price = 1; price <= 1000; price *= 10) {
            Due.ring(x, 0, "a", 1, price, 0);
            x.close(0, 0);
        }
        // The totals of 1 to 4 are 1, 10, 100 and 1000.
        int[][] ranges = {{1, 1, 1, 1, 1}, {4, 4, 1000, 1, 1000}, {1, 4, 1111, 4, 1000}, {2, 3, 110, 2, 100},
            {0, 1, 1, 1, 1}, {4, 5, 1000, 1, 1000}, {LEAST, MOST, 1111, 4, 1000}, {LEAST, 2, 11, 2, 10},
            {3, MOST, 1100, 2, 1000}};
        for (int[] r : ranges) {
            for (int what = 0; what <= 2; what++) {
                due("between(" + r[0] + ", " + r[1] + ", " + what + ")", x.between(r[0], r[1], what), r[2 + what]);
            }
        }
        int[][] wrong = {{2, 1}, {1, 0}, {MOST, LEAST}, {LEAST + 1, LEAST}, {MOST, MOST - 1}, {0, -1}};
        for (int[] w : wrong) {
            for (int what = -1; what <= 3; what++) {
                due("between(" + w[0] + ", " + w[1] + ", " + what + ")", x.between(w[0], w[1], what), BAD_VALUE);
            }
        }
        for (int what : new int[] {-1, 3, LEAST, MOST}) {
            due("between(1, 4, " + what + ")", x.between(1, 4, what), BAD_VALUE);
        }
    }

    private static void betweenNone() {
        DUE.part("promise 17: 2 the greatest total (NONE without any)");
        Rolls x = new Rolls();
        Due.ring(x, 0, "a", 1, 700, 0);
        due("an open one does not count", x.between(-2, 1, 1), 0);
        x.strike(0, 0);
        x.close(0, 0);
        int[][] ranges = {{2, 9}, {-9, 0}, {0, 0}, {LEAST, LEAST}, {MOST, MOST}};
        for (int[] r : ranges) {
            due("totals", x.between(r[0], r[1], 0), 0);
            due("how many", x.between(r[0], r[1], 1), 0);
            due("the greatest", x.between(r[0], r[1], 2), NONE);
        }
        due("one of 0", x.between(1, 1, 2), 0);
        due("one of 0", x.between(1, 1, 1), 1);
    }

    private static void betweenTheMost() {
        DUE.part("promise 17: the totals of as many receipts as can be known, each as great as it can be");
        Rolls x = new Rolls();
        x.set(ReceiptRolls.SPEED, 9);
        roll(x, 200);
        for (int receipt = 1; receipt <= 18; receipt++) {
            for (int item = 0; item < 12; item++) {
                Due.ring(x, 0, "a", 99, 9999, 0);
            }
            x.close(0, 0);
            if (receipt == 8) {
                due("8 are printed", x.pass(99), 112);
            }
        }
        due("the totals", x.between(1, 18, 0), 213818616);
        due("how many", x.between(1, 18, 1), 18);
        due("the greatest", x.between(1, 18, 2), 11878812);
    }

    private static void doneInZero() {
        DUE.part("promise 18: returns how many (0 if it is done); NO_SUCH if the ledger does not know it");
        Rolls x = closed(9, 9);
        for (int receipt : new int[] {0, -1, -2, 10, LEAST, MOST}) {
            due("doneIn(" + receipt + ")", x.doneIn(receipt), NO_SUCH);
        }
        x.pass(1);
        due("done", x.doneIn(1), 0);
        due("not done", x.doneIn(4), 1);
        x.pass(2);
        due("forgotten", x.doneIn(1), NO_SUCH);
        due("done", x.doneIn(2), 0);
        Rolls out = new Rolls();
        roll(out, 5);
        Made.closeOne(out, 0, 0);
        Made.closeOne(out, 0, 0);
        out.pass(9);
        due("done, with the roll out", out.doneIn(1), 0);
        due("not done, with the roll out", out.doneIn(2), NONE);
    }

    private static void doneInLines() {
        DUE.part("promise 18: in how many ticks, from the first line to the last one");
        for (int speed = 1; speed <= 9; speed++) {
            Rolls x = closed(10, speed);
            for (int receipt = 1; receipt <= 10; receipt++) {
                due("receipt " + receipt + " at " + speed, x.doneIn(receipt), (3 * receipt + speed - 1) / speed);
            }
            x.pass(1);
            for (int receipt = 1; receipt <= 10; receipt++) {
                int lines = Math.max(0, 3 * receipt - speed);
                due("a tick later", x.doneIn(receipt), (lines + speed - 1) / speed);
            }
        }
    }

    private static void doneInRollOut() {
        DUE.part("promise 18: NONE if the roll is out ahead of that");
        Rolls x = closed(3, 1);
        roll(x, 5);
        due("one line short", x.doneIn(2), NONE);
        due("far short", x.doneIn(3), NONE);
        due("enough for the first", x.doneIn(1), 3);
        roll(x, 6);
        due("just enough", x.doneIn(2), 6);
        due("not for the third", x.doneIn(3), NONE);
        x.pass(1);
        x.tear(1);
        due("a line was spoilt", x.doneIn(2), NONE);
        due("not the first one's", x.doneIn(1), 3);
    }

    private static void doneInOrder() {
        DUE.part("promise 18: if nothing else is done: the printed one first, then by priority and number");
        Rolls x = closed(4, 1);
        x.pass(1);
        x.hurry(4, 3);
        x.hurry(3, 1);
        int[] want = {2, 11, 8, 5};
        for (int receipt = 1; receipt <= 4; receipt++) {
            due("doneIn(" + receipt + ")", x.doneIn(receipt), want[receipt - 1]);
        }
        x.tear(1);
        due("one line more", x.doneIn(1), 3);
        due("one line more", x.doneIn(2), 12);
    }

    private static void linesLeft() {
        DUE.part("promise 19: for all receipts that wait or are printed");
        Rolls x = new Rolls();
        due("none is closed", x.linesLeft(), 0);
        Made.fillTill(x, 0);
        due("an open one", x.linesLeft(), 0);
        x.set(ReceiptRolls.WIDTH, 16);
        x.close(0, 0);
        due("one waits", x.linesLeft(), 14);
        x.set(ReceiptRolls.SPEED, 7);
        x.pass(1);
        due("one is printed", x.linesLeft(), 7);
        x.tear(7);
        due("all lines of it torn", x.linesLeft(), 14);
        for (int i = 0; i < 9; i++) {
            Made.closeOne(x, 1, 3);
        }
        due("10 are not done", x.linesLeft(), 41);
        roll(x, 200);
        x.pass(6);
        due("all are done", x.linesLeft(), 0);
    }

    private static void outInNow() {
        DUE.part("promise 20: returns how many (0 if it is so now)");
        Rolls x = new Rolls();
        roll(x, 6);
        Made.closeOne(x, 0, 0);
        Made.closeOne(x, 0, 0);
        x.pass(3);
        due("all is done as well", x.outIn(), 0);
        Made.closeOne(x, 0, 0);
        due("one waits", x.outIn(), 0);
        x.pass(1);
        due("one is printed", x.outIn(), 0);
        x.newRoll();
        due("a new roll", x.outIn(), NONE);
    }

    private static void outInOne() {
        DUE.part("promise 20: one line is left of the roll");
        Rolls x = closed(2, 1);
        roll(x, 5);
        for (int left = 5; left >= 0; left--) {
            due(left + " lines left", x.outIn(), left);
            x.pass(1);
        }
        Rolls y = closed(2, 1);
        roll(y, 7);
        y.pass(6);
        due("one that nothing is printed on", y.outIn(), NONE);
        Made.closeOne(y, 0, 0);
        due("one for the next receipt", y.outIn(), 1);
    }

    private static void outInLines() {
        DUE.part("promise 20: behind how many ticks the roll has no line left");
        for (int speed = 1; speed <= 9; speed++) {
            for (int lines = 5; lines <= 30; lines++) {
                Rolls x = closed(10, speed);
                roll(x, lines);
                due(lines + " lines at " + speed, x.outIn(), (lines + speed - 1) / speed);
                x.pass((lines + speed - 1) / speed);
                due("then it is out", x.printer(1), 0);
                due("then it is out", x.outIn(), 0);
            }
        }
    }

    private static void outInNone() {
        DUE.part("promise 20: NONE if lines are left when all is done");
        Rolls x = closed(2, 1);
        roll(x, 6);
        due("just as many", x.outIn(), 6);
        roll(x, 7);
        due("one line is left", x.outIn(), NONE);
        x.pass(1);
        x.tear(1);
        due("a line was spoilt", x.outIn(), 6);
        x.pass(1);
        due("a tick later", x.outIn(), 5);
        due("nothing to print", new Rolls().outIn(), NONE);
    }

    private static void ticksDoNotMatter() {
        DUE.part("what if: (the bound of ticks does not matter)");
        Rolls x = new Rolls();
        Made.passAll(x, 9998);
        roll(x, 5);
        x.set(ReceiptRolls.SPEED, 1);
        Made.closeOne(x, 0, 0);
        Made.closeOne(x, 0, 0);
        due("at 9998", x.doneIn(1), 3);
        due("at 9998", x.outIn(), 5);
        due("the last tick", x.pass(1), 1);
        due("at 9999", x.doneIn(1), 2);
        due("at 9999", x.outIn(), 4);
        due("no tick more", x.pass(1), NOT_POSSIBLE);
    }

    private static void bestWidthEnds() {
        DUE.part("promise 21: the WIDTH, 16 to 40, with which the open receipt has the fewest lines");
        Rolls x = new Rolls();
        Due.ring(x, 0, "abcdefgh", 1, 1, 0);
        due("the least one", x.bestWidth(0, 0), 16);
        due("its lines", x.bestWidth(0, 1), 3);
        Due.ring(x, 1, "abcdefghi", 1, 1, 0);
        due("the next one", x.bestWidth(1, 0), 17);
        due("its lines", x.bestWidth(1, 1), 3);
        Due.ring(x, 2, "abcdefghijklmnopqrst_abcdefg", 99, 1, 0);
        due("the greatest one", x.bestWidth(2, 0), 40);
        due("its lines", x.bestWidth(2, 1), 3);
        Due.ring(x, 0, "abcdefghijklmnopqrst_abcdefgh", 99, 1, 0);
        due("two lines with 32 and more", x.bestWidth(0, 0), 32);
        due("its lines", x.bestWidth(0, 1), 5);
        for (int what : new int[] {-1, 2, LEAST, MOST}) {
            due("bestWidth(0, " + what + ")", x.bestWidth(0, what), BAD_VALUE);
        }
        for (int till : new int[] {-1, 3, LEAST, MOST}) {
            due("bestWidth(" + till + ", 0)", x.bestWidth(till, 0), NO_SUCH);
        }
    }

    private static void bestWidthLeast() {
        DUE.part("promise 21: of several the least one");
        Rolls x = new Rolls();
        for (int till = 0; till <= 2; till++) {
            due("without items", x.bestWidth(till, 0), 16);
            due("without items", x.bestWidth(till, 1), 2);
        }
        x.set(ReceiptRolls.WIDTH, 40);
        Due.ring(x, 0, "abc_def_ghi", 1, 1, 1);
        due("one line with 19 and more", x.bestWidth(0, 0), 19);
        due("with its tax", x.bestWidth(0, 1), 4);
        Due.ring(x, 0, "abc_def_gh", 1, 1, 0);
        due("both", x.bestWidth(0, 0), 19);
        x.strike(0, 0);
        due("a struck one is printed", x.bestWidth(0, 0), 19);
        due("without tax, with its void", x.bestWidth(0, 1), 5);
        x.close(0, 0);
        due("without items", x.bestWidth(0, 0), 16);
    }

    private static void ifStruck() {
        DUE.part("promise 22: what one would have to pay if an item was struck (or was not, if it is)");
        Rolls x = new Rolls();
        due("without items", x.ifStruck(0, 0), NO_SUCH);
        Due.ring(x, 0, "a", 99, 9999, 2);
        due("the only one", x.ifStruck(0, 0), 0);
        x.strike(0, 0);
        due("the only one, which is struck", x.ifStruck(0, 0), 989901);
        for (int i = 1; i < 12; i++) {
            Due.ring(x, 0, "a", 99, 9999, 2);
        }
        due("the greatest total", x.ifStruck(0, 0), 11878812);
        due("the last one", x.ifStruck(0, 11), 9899010);
        for (int item : new int[] {-1, 12, 32, LEAST, MOST}) {
            due("ifStruck(0, " + item + ")", x.ifStruck(0, item), NO_SUCH);
        }
        for (int till : new int[] {-1, 3, LEAST, MOST}) {
            due("ifStruck(" + till + ", 0)", x.ifStruck(till, 0), NO_SUCH);
        }
        due("the total stays", x.ofTill(0, 2), 10888911);
    }
}
