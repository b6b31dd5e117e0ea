/** For each promise of the document its ordinary inputs, the edges that it names, and wrong inputs. */
public final class PromisesTest {
    private static final Due DUE = new Due();
    private static final int LEAST = Integer.MIN_VALUE, MOST = Integer.MAX_VALUE;
    private static final String THIRTY = "abcdefghijklmnopqrstuvwxyzabcd";

    private PromisesTest() {
    }

    public static void main(String[] args) {
        constants();
        newObject();
        set();
        ring();
        strike();
        close();
        ledger();
        hurry();
        newRoll();
        tear();
        pass();
        item();
        ofTill();
        ofReceipt();
        sign();
        wordsInLines();
        waiting();
        printer();
        count();
        between();
        doneIn();
        linesLeft();
        outIn();
        bestWidth();
        ifStruck();
        put();
        wipe();
        fault();
        undo();
        undoOfEachChange();
        save();
        restore();
        restoreOfReceipts();
        DUE.end();
    }

    private static void due(String call, long got, long want) {
        DUE.due(call, got, want);
    }

    private static void dueLine(Rolls x, int receipt, int line, String want) {
        DUE.due("line " + line + " of " + receipt, Due.line(x, receipt, line), want);
    }

    /** Rings an item of 1.00 without tax and closes its receipt: 3 lines. */
    private static int closeOne(Rolls x, int till, int priority) {
        Due.ring(x, till, "a", 1, 100, 0);
        return x.close(till, priority);
    }

    private static void constants() {
        DUE.part("constants");
        due("NO_SUCH", ReceiptRolls.NO_SUCH, -1);
        due("BAD_VALUE", ReceiptRolls.BAD_VALUE, -2);
        due("BAD_TEXT", ReceiptRolls.BAD_TEXT, -3);
        due("TOO_MANY", ReceiptRolls.TOO_MANY, -4);
        due("NOT_POSSIBLE", ReceiptRolls.NOT_POSSIBLE, -5);
        due("NONE", ReceiptRolls.NONE, -6);
        due("WIDTH", ReceiptRolls.WIDTH, 0);
        due("ROLL", ReceiptRolls.ROLL, 1);
        due("SPEED", ReceiptRolls.SPEED, 2);
    }

    private static void newObject() {
        DUE.part("promise 1");
        Rolls x = new Rolls();
        int[] counts = {0, 0, 0, 0, 0, 24, 40, 2, 0, 0};
        for (int what = 0; what < counts.length; what++) {
            due("count(" + what + ")", x.count(what), counts[what]);
        }
        int[] printer = {-6, 40, 0, 0, 1, 0};
        for (int what = 0; what < printer.length; what++) {
            due("printer(" + what + ")", x.printer(what), printer[what]);
        }
        int[] ofTill = {0, 0, 0, 2, 0, 0};
        for (int till = 0; till < 3; till++) {
            for (int what = 0; what < ofTill.length; what++) {
                due("ofTill(" + till + ", " + what + ")", x.ofTill(till, what), ofTill[what]);
            }
            dueLine(x, -till, 0, "#1                      ");
            dueLine(x, -till, 1, "sum                 0.00");
            dueLine(x, -till, 2, "none");
        }
        due("undo()", x.undo(), -5);
        due("restore(0)", x.restore(0), -5);
        due("restore(1)", x.restore(1), -5);
        due("linesLeft()", x.linesLeft(), 0);
        due("waiting(0)", x.waiting(0), -1);
        due("fault()", x.fault(), 0);
        due("ofReceipt(0, 0)", x.ofReceipt(0, 0), -1);
        due("ofReceipt(1, 0)", x.ofReceipt(1, 0), -1);
    }

    private static void set() {
        DUE.part("promise 2");
        Rolls x = new Rolls();
        int[] least = {16, 5, 1};
        int[] most = {40, 200, 9};
        int[] first = {24, 40, 2};
        for (int setting = 0; setting < 3; setting++) {
            due("set below", x.set(setting, least[setting] - 1), -2);
            due("set above", x.set(setting, most[setting] + 1), -2);
            due("set LEAST", x.set(setting, LEAST), -2);
            due("set MOST", x.set(setting, MOST), -2);
            due("as before", x.count(5 + setting), first[setting]);
            due("set least", x.set(setting, least[setting]), first[setting]);
            due("set most", x.set(setting, most[setting]), least[setting]);
            due("set most again", x.set(setting, most[setting]), most[setting]);
            due("now", x.count(5 + setting), most[setting]);
        }
        due("set(-1, 20)", x.set(-1, 20), -2);
        due("set(3, 20)", x.set(3, 20), -2);
        due("set(LEAST, 20)", x.set(LEAST, 20), -2);
        due("set(MOST, 20)", x.set(MOST, 20), -2);
        due("the roll stays", x.printer(1), 40);
        due("changes", x.count(9), 6);
    }

    private static void ring() {
        DUE.part("promise 3");
        Rolls x = new Rolls();
        due("ring without a name", x.ring(0, 1, 1, 0), -3);
        due("ring nowhere without a name", x.ring(3, 0, 0, 3), -1);
        due("ring without a name, bad values", x.ring(0, 0, 0, 3), -3);
        Due.put(x, "tea");
        due("till -1", x.ring(-1, 1, 1, 0), -1);
        due("till LEAST", x.ring(LEAST, 1, 1, 0), -1);
        due("many 0", x.ring(0, 0, 1, 0), -2);
        due("many 100", x.ring(0, 100, 1, 0), -2);
        due("price 0", x.ring(0, 1, 0, 0), -2);
        due("price 10000", x.ring(0, 1, 10000, 0), -2);
        due("tax -1", x.ring(0, 1, 1, -1), -2);
        due("tax 3", x.ring(0, 1, 1, 3), -2);
        due("tax MOST", x.ring(0, 1, 1, MOST), -2);
        due("the pad stays", x.count(8), 3);
        due("no change", x.count(9), 0);
        due("ring", x.ring(0, 99, 9999, 2), 0);
        due("the pad is empty", x.count(8), 0);
        due("a change", x.count(9), 1);
        for (int i = 1; i < 12; i++) {
            due("ring", Due.ring(x, 0, THIRTY, 1, 1, 0), i);
        }
        due("length of the name", x.item(0, 11, 6), 30);
        Due.put(x, "tea");
        due("too many", x.ring(0, 1, 1, 0), -4);
        due("bad value first", x.ring(0, 0, 1, 0), -2);
        due("the pad stays", x.count(8), 3);
        due("another till", x.ring(2, 1, 1, 0), 0);
        Due.put(x, "Tea");
        due("bad text first", x.ring(0, 1, 1, 0), -3);
        x.wipe();
        x.strike(0, 3);
        Due.put(x, "tea");
        due("a struck one counts", x.ring(0, 1, 1, 0), -4);
    }

    private static void strike() {
        DUE.part("promise 4");
        Rolls x = new Rolls();
        Due.ring(x, 1, "tea", 3, 250, 1);
        Due.ring(x, 1, "cake", 2, 99, 2);
        due("no till", x.strike(3, 0), -1);
        due("no till", x.strike(-1, 0), -1);
        due("no item", x.strike(1, 2), -1);
        due("no item", x.strike(1, -1), -1);
        due("no item of that till", x.strike(0, 0), -1);
        due("no change", x.count(9), 2);
        due("strike", x.strike(1, 0), 750);
        due("a change", x.count(9), 3);
        due("strike again", x.strike(1, 0), -5);
        due("no change", x.count(9), 3);
        due("it is struck", x.item(1, 0, 4), 1);
        due("the other one is not", x.item(1, 1, 4), 0);
        due("total", x.ofTill(1, 2), 198);
        due("strike the other", x.strike(1, 1), 198);
        due("total", x.ofTill(1, 2), 0);
        x.close(1, 0);
        due("closed", x.strike(1, 0), -1);
    }

    private static void close() {
        DUE.part("promise 5");
        Rolls x = new Rolls();
        due("no till", x.close(3, 0), -1);
        due("no till", x.close(-1, 9), -1);
        due("without items", x.close(0, 0), -5);
        due("bad value first", x.close(0, 4), -2);
        due("bad value", x.close(0, -1), -2);
        Due.ring(x, 0, "tea", 1, 1, 0);
        due("bad value", x.close(0, 4), -2);
        due("close", x.close(0, 3), 1);
        due("the next one is without items", x.ofTill(0, 0), 0);
        due("without items", x.close(0, 3), -5);
        Due.ring(x, 0, "tea", 1, 1, 0);
        x.strike(0, 0);
        due("struck items are items", x.close(0, 0), 2);
        due("none of the next ones is struck", x.ofTill(0, 1), 0);
        for (int i = 3; i <= 10; i++) {
            due("close", closeOne(x, i % 3, 1), i);
        }
        dueLine(x, 10, 0, "#10                     ");
        due("without items first", x.close(0, 0), -5);
        due("too many", closeOne(x, 0, 0), -4);
        due("bad value first", x.close(0, 4), -2);
        due("its item stays", x.ofTill(0, 0), 1);
        due("waiting", x.count(2), 10);
        x.pass(1);
        due("the printed one counts", x.close(0, 0), -4);
        x.pass(1);
        due("one is done", x.count(3), 1);
        due("close", x.close(0, 0), 11);
    }

    private static void ledger() {
        DUE.part("terms: ledger");
        Rolls x = new Rolls();
        x.set(ReceiptRolls.SPEED, 9);
        x.set(ReceiptRolls.ROLL, 200);
        x.newRoll();
        due("close", closeOne(x, 0, 0), 1);
        for (int i = 2; i <= 9; i++) {
            due("close", closeOne(x, 0, 1), i);
        }
        x.pass(3);
        due("done", x.count(3), 9);
        // The first one was done last, in the same tick as two others: the second one is forgotten.
        due("receipt 1", x.ofReceipt(1, 0), 2);
        due("receipt 2", x.ofReceipt(2, 0), -1);
        due("receipt 2", x.doneIn(2), -1);
        due("receipt 2", x.sign(2, 0, 0), -1);
        due("receipt 2", x.hurry(2, 0), -1);
        due("receipt 3", x.ofReceipt(3, 0), 2);
        due("together", x.between(1, 9, 1), 8);
        for (int i = 10; i <= 19; i++) {
            due("close", closeOne(x, 0, 0), i);
        }
        due("18 are known", x.between(LEAST, MOST, 1), 18);
        x.pass(1);
        due("15 are known", x.between(LEAST, MOST, 1), 15);
        due("3 is forgotten", x.ofReceipt(3, 0), -1);
        due("5 is forgotten", x.ofReceipt(5, 0), -1);
        due("6 is known", x.ofReceipt(6, 0), 2);
        x.pass(2);
        due("18 are done", x.count(3), 18);
        due("1 is forgotten", x.ofReceipt(1, 0), -1);
        due("10 is forgotten", x.between(1, 10, 1), 0);
        due("11 is known", x.ofReceipt(11, 0), 2);
    }

    private static void hurry() {
        DUE.part("promise 6");
        Rolls x = new Rolls();
        due("unknown", x.hurry(1, 0), -1);
        due("unknown", x.hurry(0, 9), -1);
        closeOne(x, 0, 0);
        closeOne(x, 1, 2);
        due("bad value", x.hurry(1, -1), -2);
        due("bad value", x.hurry(1, 4), -2);
        due("unknown", x.hurry(3, 4), -1);
        due("unknown", x.hurry(-1, 0), -1);
        due("hurry", x.hurry(1, 3), 0);
        due("a change", x.count(9), 5);
        due("its priority", x.ofReceipt(1, 2), 3);
        due("it is the next", x.waiting(0), 1);
        due("hurry to the same", x.hurry(1, 3), 3);
        x.pass(1);
        due("printed", x.hurry(1, 0), -5);
        due("bad value first", x.hurry(1, 4), -2);
        due("the other one waits", x.hurry(2, 0), 2);
        x.pass(9);
        due("done", x.hurry(1, 0), -5);
        due("its priority", x.ofReceipt(1, 2), 3);
    }

    private static void newRoll() {
        DUE.part("promise 7");
        Rolls x = new Rolls();
        closeOne(x, 0, 0);
        x.pass(1);
        x.set(ReceiptRolls.ROLL, 7);
        due("newRoll()", x.newRoll(), 38);
        due("left", x.printer(1), 7);
        due("rolls", x.printer(4), 2);
        due("thrown away", x.printer(5), 38);
        due("newRoll()", x.newRoll(), 7);
        due("thrown away", x.printer(5), 45);
        due("a change", x.count(9), 6);
    }

    private static void tear() {
        DUE.part("promise 8");
        Rolls x = new Rolls();
        due("bad value", x.tear(0), -2);
        due("bad value", x.tear(100), -2);
        due("bad value", x.tear(LEAST), -2);
        due("none is printed", x.tear(1), -5);
        x.set(ReceiptRolls.WIDTH, 16);
        Due.ring(x, 0, THIRTY, 1, 100, 1);
        Due.ring(x, 0, THIRTY, 1, 100, 1);
        x.strike(0, 0);
        x.close(0, 0);
        // 0: #1, 1 to 4: item 0, 5 to 8: item 1, 9: void 0, 10: sum, 11: tax 7.
        due("lines", x.ofReceipt(1, 6), 12);
        x.set(ReceiptRolls.WIDTH, 40);
        due("none is printed", x.tear(1), -5);
        x.set(ReceiptRolls.SPEED, 1);
        x.pass(11);
        due("more than were printed", x.tear(12), -5);
        due("more than were printed", x.tear(99), -5);
        due("the sum is by itself", x.tear(1), 1);
        due("the void is by itself", x.tear(1), 1);
        due("printed", x.ofReceipt(1, 7), 9);
        due("the last of item 1", x.tear(1), 4);
        due("printed", x.ofReceipt(1, 7), 5);
        due("spoilt", x.printer(3), 6);
        due("printed in all", x.printer(2), 11);
        due("the roll gets nothing back", x.printer(1), 29);
        due("more than are not spoilt", x.tear(6), -5);
        x.pass(1);
        due("the first of item 1, and one of item 0", x.tear(2), 5);
        due("printed", x.ofReceipt(1, 7), 1);
        x.pass(3);
        due("the middle of item 0", x.tear(2), 3);
        x.pass(4);
        due("item 0", x.tear(4), 4);
        x.pass(1);
        due("the second of item 0", x.tear(1), 1);
        due("the head", x.tear(1), 1);
        due("printed", x.ofReceipt(1, 7), 0);
        due("nothing is left to tear", x.tear(1), -5);
        due("it is printed yet", x.printer(0), 1);
        due("it goes on", x.pass(12), 12);
        due("it is done", x.ofReceipt(1, 0), 2);
        due("none is printed", x.tear(1), -5);
    }

    private static void pass() {
        DUE.part("promise 9");
        Rolls x = new Rolls();
        due("bad value", x.pass(0), -2);
        due("bad value", x.pass(100), -2);
        due("bad value", x.pass(-1), -2);
        due("nothing to print", x.pass(1), 0);
        due("a tick", x.count(0), 1);
        due("a change", x.count(9), 1);
        closeOne(x, 0, 1);
        closeOne(x, 1, 1);
        closeOne(x, 2, 2);
        due("pass(1)", x.pass(1), 2);
        due("the highest priority", x.printer(0), 3);
        due("pass(1)", x.pass(1), 2);
        due("in one tick the next one is begun", x.printer(0), 1);
        due("3 is done", x.ofReceipt(3, 9), 2);
        due("pass(1)", x.pass(1), 2);
        due("behind its last line none is printed", x.printer(0), -6);
        due("2 waits", x.ofReceipt(2, 0), 0);
        due("pass(99)", x.pass(99), 3);
        due("ticks", x.count(0), 103);
        due("the tick of 2", x.ofReceipt(2, 9), 5);

        x.set(ReceiptRolls.ROLL, 5);
        x.newRoll();
        closeOne(x, 0, 0);
        closeOne(x, 0, 0);
        x.set(ReceiptRolls.SPEED, 9);
        due("the roll runs out", x.pass(2), 5);
        due("nothing on an empty roll", x.pass(1), 0);
        x.newRoll();
        due("on the new roll", x.pass(1), 1);
        due("left", x.printer(1), 4);
        closeOne(x, 0, 0);
        closeOne(x, 0, 0);
        due("a roll for one and a line", x.pass(1), 4);
        x.tear(1);
        due("nothing on an empty roll", x.pass(1), 0);
        x.newRoll();
        due("the rest", x.pass(1), 3);

        x = new Rolls();
        x.set(ReceiptRolls.ROLL, 6);
        x.newRoll();
        closeOne(x, 0, 0);
        closeOne(x, 0, 0);
        x.pass(3);
        due("the roll ends with a receipt", x.printer(1), 0);
        closeOne(x, 0, 0);
        due("pass(1)", x.pass(1), 0);
        due("it is taken on an empty roll", x.ofReceipt(3, 0), 1);
        due("printer(0)", x.printer(0), 3);

        x = new Rolls();
        for (int i = 0; i < 101; i++) {
            due("pass(99)", x.pass(99), 0);
        }
        due("9999 ticks", x.count(0), 9999);
        due("one more", x.pass(1), -5);
        due("bad value first", x.pass(100), -2);
        due("the same changes", x.count(9), 6);
        x.undo();
        due("ticks", x.count(0), 9900);
        x.pass(1);
        due("too many", x.pass(99), -5);
        due("as many as there may be", x.pass(98), 0);
    }

    private static void item() {
        DUE.part("promise 10");
        Rolls x = new Rolls();
        Due.ring(x, 2, "red_wine", 3, 1299, 2);
        Due.ring(x, 2, THIRTY, 1, 5, 0);
        int[] first = {3, 1299, 2, 3897, 0, 1, 8};
        int[] second = {1, 5, 0, 5, 1, 2, 30};
        x.strike(2, 1);
        for (int what = 0; what < 7; what++) {
            due("item(2, 0, " + what + ")", x.item(2, 0, what), first[what]);
            due("item(2, 1, " + what + ")", x.item(2, 1, what), second[what]);
        }
        due("bad value", x.item(2, 0, -1), -2);
        due("bad value", x.item(2, 0, 7), -2);
        due("no till", x.item(3, 0, 7), -1);
        due("no till", x.item(-1, 0, 0), -1);
        due("no item", x.item(2, 2, 7), -1);
        due("no item", x.item(2, -1, 0), -1);
        due("no item", x.item(0, 0, 0), -1);
        x.set(ReceiptRolls.WIDTH, 16);
        due("red_wine beside 3x", x.item(2, 0, 5), 2);
        due("a long word", x.item(2, 1, 5), 4);
        x.set(ReceiptRolls.WIDTH, 38);
        due("as long as a line", x.item(2, 1, 5), 1);
        x.set(ReceiptRolls.WIDTH, 37);
        due("longer than a line", x.item(2, 1, 5), 2);
    }

    private static void ofTill() {
        DUE.part("promise 11");
        Rolls x = new Rolls();
        Due.ring(x, 1, "a", 1, 8, 1);
        Due.ring(x, 1, "b", 1, 7, 1);
        Due.ring(x, 1, "c", 1, 119, 2);
        Due.ring(x, 1, "d", 2, 100, 0);
        int[] all = {4, 0, 334, 8, 1, 19};
        for (int what = 0; what < all.length; what++) {
            due("ofTill(1, " + what + ")", x.ofTill(1, what), all[what]);
        }
        x.strike(1, 0);
        x.strike(1, 2);
        // 7 cents with 7 in 107 of tax are 0.46 cents of tax, which has its line all the same.
        int[] without = {4, 2, 207, 9, 0, 0};
        for (int what = 0; what < without.length; what++) {
            due("ofTill(1, " + what + ")", x.ofTill(1, what), without[what]);
        }
        due("bad value", x.ofTill(1, -1), -2);
        due("bad value", x.ofTill(1, 6), -2);
        due("no till", x.ofTill(3, 9), -1);
        due("no till", x.ofTill(-1, 0), -1);
        x = new Rolls();
        for (int i = 0; i < 12; i++) {
            Due.ring(x, 0, "a", 99, 9999, 2);
        }
        due("the greatest total", x.ofTill(0, 2), 11878812);
        due("the greatest tax", x.ofTill(0, 5), 1896617);
        // The half of a cent lies between 84 and 85 cents.
        Due.ring(x, 1, "a", 84, 1, 1);
        due("5.495 cents of tax", x.ofTill(1, 4), 5);
        x.strike(1, 0);
        Due.ring(x, 1, "a", 85, 1, 1);
        due("5.561 cents of tax", x.ofTill(1, 4), 6);
        Due.ring(x, 2, "a", 1, 1, 1);
        due("a line for no cent of tax", x.ofTill(2, 3), 4);
        dueLine(x, 0, 13, "sum            118788.12");
        dueLine(x, 0, 14, "tax 19          18966.17");
    }

    private static void ofReceipt() {
        DUE.part("promise 12");
        Rolls x = new Rolls();
        x.set(ReceiptRolls.WIDTH, 20);
        Due.ring(x, 2, "tea", 2, 300, 1);
        Due.ring(x, 2, "cake", 1, 450, 2);
        x.strike(2, 0);
        x.close(2, 1);
        x.set(ReceiptRolls.WIDTH, 30);
        int[] waits = {0, 2, 1, 2, 1, 450, 6, 0, 20, -6};
        for (int what = 0; what < waits.length; what++) {
            due("ofReceipt(1, " + what + ")", x.ofReceipt(1, what), waits[what]);
        }
        x.pass(1);
        due("is printed", x.ofReceipt(1, 0), 1);
        due("lines printed", x.ofReceipt(1, 7), 2);
        due("not done", x.ofReceipt(1, 9), -6);
        x.pass(3);
        int[] done = {2, 2, 1, 2, 1, 450, 6, 6, 20, 2};
        for (int what = 0; what < done.length; what++) {
            due("ofReceipt(1, " + what + ")", x.ofReceipt(1, what), done[what]);
        }
        due("bad value", x.ofReceipt(1, -1), -2);
        due("bad value", x.ofReceipt(1, 10), -2);
        due("unknown", x.ofReceipt(2, 10), -1);
        due("unknown", x.ofReceipt(0, 0), -1);
        due("unknown", x.ofReceipt(LEAST, 0), -1);
        x = new Rolls();
        x.set(ReceiptRolls.SPEED, 9);
        closeOne(x, 0, 0);
        x.pass(1);
        due("the first tick is 0", x.ofReceipt(1, 9), 0);
    }

    private static void sign() {
        DUE.part("promise 13");
        Rolls x = new Rolls();
        Due.ring(x, 1, "red_wine", 3, 1299, 2);
        Due.ring(x, 1, "tea", 1, 5, 1);
        x.strike(1, 0);
        Due.ring(x, 1, "salt", 1, 60, 2);
        String[] lines = {
            "#1                      ",
            "3x red wine        38.97",
            "tea                 0.05",
            "void 0            -38.97",
            "salt                0.60",
            "sum                 0.65",
            "tax 7               0.00",
            "tax 19              0.10",
            "none"};
        for (int line = 0; line < lines.length; line++) {
            dueLine(x, -1, line, lines[line]);
        }
        closeOne(x, 0, 0);
        dueLine(x, 1, 0, "#1                      ");
        dueLine(x, 1, 1, "a                   1.00");
        dueLine(x, 1, 2, "sum                 1.00");
        dueLine(x, -1, 0, "#2                      ");
        x.close(1, 0);
        x.set(ReceiptRolls.WIDTH, 16);
        dueLine(x, 2, 0, "#2                      ");
        for (int line = 1; line < lines.length; line++) {
            dueLine(x, 2, line, lines[line]);
        }
        dueLine(x, -1, 0, "#3              ");
        dueLine(x, -1, 1, "sum         0.00");
        due("no line", x.sign(2, -1, 0), -1);
        due("no line", x.sign(2, 8, 99), -1);
        due("no line", x.sign(2, MOST, 0), -1);
        due("no line", x.sign(2, LEAST, 0), -1);
        due("bad value", x.sign(2, 7, -1), -2);
        due("bad value", x.sign(2, 7, 24), -2);
        due("bad value", x.sign(-1, 0, 16), -2);
        due("bad value", x.sign(-1, 0, LEAST), -2);
        due("bad value", x.sign(-1, 0, MOST), -2);
        due("the last place", x.sign(2, 7, 23), '0');
        due("no receipt", x.sign(3, 0, 0), -1);
        due("no receipt", x.sign(-3, 0, 99), -1);
        due("no receipt", x.sign(LEAST, 0, 0), -1);
        due("no receipt", x.sign(MOST, 0, 0), -1);
        due("till 2", x.sign(-2, 0, 1), '3');
        x.set(ReceiptRolls.WIDTH, 40);
        dueLine(x, -2, 1, "sum                                 0.00");
        voids();
    }

    private static void voids() {
        Rolls x = new Rolls();
        x.set(ReceiptRolls.WIDTH, 16);
        for (int i = 0; i < 12; i++) {
            Due.ring(x, 0, "a", 99, 9999, 2);
        }
        x.strike(0, 11);
        x.strike(0, 4);
        dueLine(x, 0, 12, "99x a    9899.01");
        dueLine(x, 0, 13, "void 11 -9899.01");
        dueLine(x, 0, 14, "void 4  -9899.01");
        dueLine(x, 0, 15, "sum     98990.10");
        dueLine(x, 0, 16, "tax 19  15805.14");
        Due.ring(x, 1, "a", 10, 100, 0);
        Due.ring(x, 1, "b", 99, 1, 0);
        Due.ring(x, 1, "c", 10, 1000, 0);
        dueLine(x, -1, 1, "10x a      10.00");
        dueLine(x, -1, 2, "99x b       0.99");
        dueLine(x, -1, 3, "10x c     100.00");
        x.strike(0, 10);
        dueLine(x, 0, 15, "void 10 -9899.01");
    }

    private static void wordsInLines() {
        DUE.part("terms: lines");
        Rolls x = new Rolls();
        x.set(ReceiptRolls.WIDTH, 16);
        String[][] items = {
            {"abc_defg", "abc defg    1.00"},
            {"abcd_efgh", "abcd            ", "efgh        1.00"},
            {"abcdefgh", "abcdefgh    1.00"},
            {"abcdefghi", "abcdefgh        ", "i           1.00"},
            {"ab_abcdefghi_cd", "ab              ", "abcdefgh        ", "i cd        1.00"},
            {"abcdefghijklmnop_q", "abcdefgh        ", "ijklmnop        ", "q           1.00"},
            {"abcdefgh_ijklmnopq", "abcdefgh        ", "ijklmnop        ", "q           1.00"},
            {"a_b_c_d_e", "a b c d         ", "e           1.00"},
            {"a_abcdefgh", "a               ", "abcdefgh    1.00"},
            {"a_abcdefghi", "a               ", "abcdefgh        ", "i           1.00"},
        };
        int line = 1;
        for (int i = 0; i < items.length; i++) {
            Due.ring(x, 0, items[i][0], 1, 100, 0);
            due("lines of " + items[i][0], x.item(0, i, 5), items[i].length - 1);
            for (int k = 1; k < items[i].length; k++) {
                dueLine(x, 0, line, items[i][k]);
                line++;
            }
        }
        dueLine(x, 0, line, "sum        10.00");
        Due.ring(x, 1, "abcde", 2, 50, 0);
        Due.ring(x, 1, "abcdef", 2, 50, 0);
        Due.ring(x, 1, "abcdefghi", 12, 50, 0);
        dueLine(x, -1, 1, "2x abcde    1.00");
        dueLine(x, -1, 2, "2x              ");
        dueLine(x, -1, 3, "abcdef      1.00");
        dueLine(x, -1, 4, "12x             ");
        dueLine(x, -1, 5, "abcdefgh        ");
        dueLine(x, -1, 6, "i           6.00");
    }

    private static void waiting() {
        DUE.part("promise 14");
        Rolls x = new Rolls();
        int[] priorities = {1, 3, 0, 3, 1};
        int[] order = {2, 4, 1, 5, 3};
        for (int priority : priorities) {
            closeOne(x, 0, priority);
        }
        for (int rank = 0; rank < order.length; rank++) {
            due("waiting(" + rank + ")", x.waiting(rank), order[rank]);
        }
        due("waiting(5)", x.waiting(5), -1);
        due("waiting(-1)", x.waiting(-1), -1);
        due("waiting(LEAST)", x.waiting(LEAST), -1);
        due("waiting(MOST)", x.waiting(MOST), -1);
        x.pass(1);
        due("the printed one does not wait", x.waiting(0), 4);
        due("waiting(4)", x.waiting(4), -1);
        x.pass(2);
        due("waiting(0)", x.waiting(0), 1);
    }

    private static void printer() {
        DUE.part("promise 15");
        Rolls x = new Rolls();
        closeOne(x, 0, 0);
        x.pass(1);
        x.tear(1);
        x.newRoll();
        x.newRoll();
        x.pass(1);
        int[] want = {-6, 38, 4, 1, 3, 78};
        for (int what = 0; what < want.length; what++) {
            due("printer(" + what + ")", x.printer(what), want[what]);
        }
        closeOne(x, 0, 0);
        due("it waits", x.printer(0), -6);
        x.pass(1);
        due("it is printed", x.printer(0), 2);
        due("printer(-1)", x.printer(-1), -2);
        due("printer(6)", x.printer(6), -2);
        due("printer(LEAST)", x.printer(LEAST), -2);
    }

    private static void count() {
        DUE.part("promise 16");
        Rolls x = new Rolls();
        closeOne(x, 0, 0);
        closeOne(x, 0, 0);
        closeOne(x, 0, 0);
        closeOne(x, 0, 0);
        x.pass(2);
        Due.ring(x, 1, "tea", 1, 1, 1);
        x.strike(1, 0);
        x.close(1, 0);
        Due.ring(x, 2, "tea", 1, 1, 1);
        x.strike(2, 0);
        x.set(ReceiptRolls.WIDTH, 17);
        x.set(ReceiptRolls.ROLL, 6);
        x.set(ReceiptRolls.SPEED, 3);
        Due.put(x, "abcde");
        int[] want = {2, 5, 3, 1, 2, 17, 6, 3, 5, 6};
        for (int what = 0; what < want.length; what++) {
            due("count(" + what + ")", x.count(what), want[what]);
        }
        due("count(-1)", x.count(-1), -2);
        due("count(10)", x.count(10), -2);
        due("count(MOST)", x.count(MOST), -2);
    }

    private static void between() {
        DUE.part("promise 17");
        Rolls x = new Rolls();
        int[] prices = {300, 500, 200, 400};
        for (int price : prices) {
            Due.ring(x, 0, "tea", 1, price, 0);
            x.close(0, 0);
        }
        Due.ring(x, 0, "tea", 1, 9000, 0);
        x.pass(2);
        int[][] ranges = {{1, 4, 1400, 4, 500}, {3, 4, 600, 2, 400}, {1, 1, 300, 1, 300}, {5, 9, 0, 0, -6},
            {LEAST, MOST, 1400, 4, 500}, {-9, 0, 0, 0, -6}, {2, 3, 700, 2, 500}};
        for (int[] range : ranges) {
            for (int what = 0; what < 3; what++) {
                String call = "between(" + range[0] + ", " + range[1] + ", " + what + ")";
                due(call, x.between(range[0], range[1], what), range[2 + what]);
            }
        }
        due("to below from", x.between(2, 1, 0), -2);
        due("to below from", x.between(MOST, LEAST, 0), -2);
        due("bad value", x.between(1, 2, -1), -2);
        due("bad value", x.between(1, 2, 3), -2);
        Due.ring(x, 1, "tea", 1, 1, 0);
        x.strike(1, 0);
        x.close(1, 0);
        due("a total of 0", x.between(5, 5, 2), 0);
    }

    private static void doneIn() {
        DUE.part("promise 18");
        Rolls x = new Rolls();
        due("unknown", x.doneIn(1), -1);
        due("unknown", x.doneIn(0), -1);
        due("unknown", x.doneIn(LEAST), -1);
        closeOne(x, 0, 1);
        closeOne(x, 0, 2);
        closeOne(x, 0, 2);
        due("doneIn(2)", x.doneIn(2), 2);
        due("doneIn(3)", x.doneIn(3), 3);
        due("doneIn(1)", x.doneIn(1), 5);
        x.pass(1);
        x.hurry(3, 3);
        due("the printed one is first", x.doneIn(2), 1);
        due("doneIn(3)", x.doneIn(3), 2);
        due("doneIn(1)", x.doneIn(1), 4);
        x.pass(1);
        due("it is done", x.doneIn(2), 0);
        x.set(ReceiptRolls.ROLL, 5);
        x.newRoll();
        due("as many lines as the roll has", x.doneIn(1), 3);
        due("nothing changes", x.printer(1), 5);
        closeOne(x, 0, 0);
        due("the roll is out ahead of it", x.doneIn(4), -6);
        x.pass(3);
        due("the roll is out", x.doneIn(4), -6);
        x.newRoll();
        due("doneIn(4)", x.doneIn(4), 2);
        x = new Rolls();
        for (int i = 0; i < 101; i++) {
            x.pass(99);
        }
        closeOne(x, 0, 0);
        due("the bound of ticks does not matter", x.doneIn(1), 2);
        due("the bound of ticks does not matter", x.outIn(), -6);
    }

    private static void linesLeft() {
        DUE.part("promise 19");
        Rolls x = new Rolls();
        Due.ring(x, 0, "tea", 1, 100, 1);
        due("open ones do not count", x.linesLeft(), 0);
        x.close(0, 0);
        closeOne(x, 0, 0);
        due("linesLeft()", x.linesLeft(), 7);
        x.pass(1);
        due("linesLeft()", x.linesLeft(), 5);
        x.tear(1);
        due("linesLeft()", x.linesLeft(), 6);
        x.pass(2);
        due("one is done", x.linesLeft(), 2);
        x.pass(1);
        due("linesLeft()", x.linesLeft(), 0);
    }

    private static void outIn() {
        DUE.part("promise 20");
        Rolls x = new Rolls();
        x.set(ReceiptRolls.ROLL, 6);
        x.newRoll();
        closeOne(x, 0, 0);
        due("lines are left", x.outIn(), -6);
        Due.ring(x, 0, "a", 1, 1, 0);
        x.close(0, 0);
        due("just as many", x.outIn(), 3);
        closeOne(x, 0, 0);
        due("more than enough", x.outIn(), 3);
        x.set(ReceiptRolls.SPEED, 4);
        due("faster", x.outIn(), 2);
        due("nothing changes", x.printer(1), 6);
        x.pass(1);
        due("a tick later", x.outIn(), 1);
        x.pass(1);
        due("now", x.outIn(), 0);
        x.undo();
        x.set(ReceiptRolls.SPEED, 1);
        x.pass(1);
        due("one line", x.outIn(), 1);
        x.set(ReceiptRolls.ROLL, 5);
        x.newRoll();
        due("on the new roll", x.outIn(), -6);
    }

    private static void bestWidth() {
        DUE.part("promise 21");
        Rolls x = new Rolls();
        due("without items", x.bestWidth(0, 0), 16);
        due("without items", x.bestWidth(0, 1), 2);
        Due.ring(x, 0, THIRTY, 1, 1, 0);
        due("one word", x.bestWidth(0, 0), 38);
        due("one word", x.bestWidth(0, 1), 3);
        Due.ring(x, 1, THIRTY, 10, 1, 1);
        // The number of them needs a line of its own, and 30 places are room for the word from 38 on.
        due("with many", x.bestWidth(1, 0), 38);
        due("with many", x.bestWidth(1, 1), 5);
        Due.ring(x, 2, "red_wine", 3, 1, 2);
        x.strike(2, 0);
        due("3x red wine", x.bestWidth(2, 0), 19);
        due("3x red wine", x.bestWidth(2, 1), 4);
        x.set(ReceiptRolls.WIDTH, 40);
        due("by none of the settings", x.bestWidth(2, 0), 19);
        due("nothing changes", x.count(5), 40);
        due("bad value", x.bestWidth(0, -1), -2);
        due("bad value", x.bestWidth(0, 2), -2);
        due("no till", x.bestWidth(3, 2), -1);
        due("no till", x.bestWidth(-1, 0), -1);
        x = new Rolls();
        Due.ring(x, 0, "abcdefghijklmnopqrst_abcdefg", 99, 1, 0);
        due("the widest one", x.bestWidth(0, 0), 40);
        due("the widest one", x.bestWidth(0, 1), 3);
        Due.ring(x, 1, "abcdefghijklmnopqrst_abcdefgh", 99, 1, 0);
        due("too wide for one line", x.bestWidth(1, 0), 32);
        due("too wide for one line", x.bestWidth(1, 1), 4);
    }

    private static void ifStruck() {
        DUE.part("promise 22");
        Rolls x = new Rolls();
        Due.ring(x, 0, "tea", 2, 300, 1);
        Due.ring(x, 0, "cake", 1, 450, 2);
        due("the first", x.ifStruck(0, 0), 450);
        due("the second", x.ifStruck(0, 1), 600);
        x.strike(0, 0);
        due("if it was not", x.ifStruck(0, 0), 1050);
        due("the second as well", x.ifStruck(0, 1), 0);
        due("nothing changes", x.ofTill(0, 2), 450);
        due("no item", x.ifStruck(0, 2), -1);
        due("no item", x.ifStruck(0, -1), -1);
        due("no item", x.ifStruck(0, 32), -1);
        due("no item", x.ifStruck(1, 0), -1);
        due("no till", x.ifStruck(3, 0), -1);
        due("no till", x.ifStruck(-1, 0), -1);
    }

    private static void put() {
        DUE.part("promise 23");
        Rolls x = new Rolls();
        due("no character", x.put(0), -2);
        due("below 33", x.put(32), -2);
        due("33", x.put(33), 1);
        due("126", x.put(126), 2);
        due("above 126", x.put(127), -2);
        due("128", x.put(128), -2);
        due("all bits", x.put(-1), -2);
        due("a code above all others", x.put(Long.MIN_VALUE | 'a'), -2);
        due("nothing above 0", x.put('a' << 8), -2);
        due("a hole", x.put((long) 'a' << 16 | 'b'), -2);
        due("a hole far above", x.put((long) 'a' << 56 | 'b'), -2);
        due("a bad one among them", x.put((long) 'a' << 16 | 32 << 8 | 'b'), -2);
        due("nothing changed", x.count(8), 2);
        due("no change", x.count(9), 0);
        x.wipe();
        due("two", x.put('a' << 8 | 'b'), 2);
        due("eight", x.put(Due.packed("cdefghij")), 10);
        x.ring(0, 1, 100, 0);
        dueLine(x, 0, 1, "abcdefghij          1.00");
        for (int i = 1; i <= 9; i++) {
            due("eight", x.put(Due.packed("~!AZaz09")), 8 * i);
        }
        due("78", x.put(Due.packed("abcdef")), 78);
        due("81", x.put(Due.packed("abc")), -4);
        due("bad value first", x.put(Due.packed("ab ")), -2);
        due("80", x.put(Due.packed("ab")), 80);
        due("81", x.put('a'), -4);
        due("80", x.count(8), 80);
    }

    private static void wipe() {
        DUE.part("promise 24");
        Rolls x = new Rolls();
        due("empty", x.wipe(), 0);
        Due.put(x, "abcdefghijk");
        due("wipe()", x.wipe(), 11);
        due("empty", x.wipe(), 0);
        due("length", x.count(8), 0);
        due("no change", x.count(9), 0);
        Due.put(x, "z");
        x.ring(0, 1, 1, 0);
        dueLine(x, 0, 1, "z                   0.01");
    }

    private static void fault() {
        DUE.part("promise 25");
        Object[][] pads = {
            {"", 0}, {"a", -6}, {"z", -6}, {"`", 0}, {"{", 0}, {"_", 0}, {"_a", 0}, {"a_", 2}, {"a__b", 2}, {"a_b", -6},
            {"a_b_", 4}, {"aB", 1}, {"a1", 1}, {"a_1", 2}, {"ab-c_", 2}, {THIRTY, -6}, {THIRTY + "a", 30},
            {THIRTY + "_", 30}, {THIRTY.substring(0, 29), -6}, {THIRTY.substring(0, 29) + "_", 29},
            {THIRTY.substring(0, 29) + "_a", 29}, {THIRTY.substring(0, 28) + "_", 29},
            {THIRTY.substring(0, 28) + "_a", -6}, {THIRTY.substring(0, 28) + "_ab", 30}, {THIRTY + "A", 30},
            {THIRTY.substring(0, 28) + "__", 29}, {THIRTY + THIRTY + "abcdefghijklmnopqrst", 30}};
        for (Object[] pad : pads) {
            Rolls x = new Rolls();
            Due.put(x, (String) pad[0]);
            int want = (Integer) pad[1];
            due("fault of " + pad[0], x.fault(), want);
            due("length of " + pad[0], x.count(8), ((String) pad[0]).length());
            due("ring " + pad[0], x.ring(0, 1, 1, 0), want == -6 ? 0 : -3);
        }
    }

    private static void undo() {
        DUE.part("promise 26");
        Rolls x = new Rolls();
        due("nothing to undo", x.undo(), -5);
        for (int i = 1; i <= 8; i++) {
            x.set(ReceiptRolls.WIDTH, 20 + i);
            due("changes", x.count(9), Math.min(i, 6));
        }
        x.set(ReceiptRolls.WIDTH, 99);
        due("an error is no change", x.count(9), 6);
        for (int i = 5; i >= 0; i--) {
            due("undo()", x.undo(), i);
            due("WIDTH", x.count(5), 22 + i);
        }
        due("nothing to undo", x.undo(), -5);
        due("WIDTH", x.count(5), 22);
        x.set(ReceiptRolls.WIDTH, 22);
        due("nothing is different", x.count(9), 1);
        due("undo()", x.undo(), 0);
        Due.put(x, "tea");
        x.ring(0, 1, 1, 0);
        Due.put(x, "xy");
        due("undo()", x.undo(), 0);
        due("no item", x.ofTill(0, 0), 0);
        due("the pad stays", x.count(8), 2);
    }

    private static void undoOfEachChange() {
        Rolls x = new Rolls();
        Due.ring(x, 0, "tea", 1, 100, 1);
        Due.ring(x, 0, "cake", 2, 200, 2);
        due("strike", x.strike(0, 0), 100);
        due("undo()", x.undo(), 2);
        due("not struck", x.item(0, 0, 4), 0);
        due("none struck so far", x.count(4), 0);
        due("its void is gone", x.ofTill(0, 3), 6);
        due("close", x.close(0, 2), 1);
        due("undo()", x.undo(), 2);
        due("none closed", x.count(1), 0);
        due("unknown", x.ofReceipt(1, 0), -1);
        due("the items are back", x.ofTill(0, 2), 500);
        dueLine(x, 0, 2, "2x cake             4.00");
        x.close(0, 2);
        due("hurry", x.hurry(1, 3), 2);
        x.undo();
        due("its priority", x.ofReceipt(1, 2), 2);
        x.newRoll();
        x.undo();
        due("rolls", x.printer(4), 1);
        due("thrown", x.printer(5), 0);
        x.pass(2);
        x.tear(1);
        due("undo()", x.undo(), 4);
        due("printed", x.ofReceipt(1, 7), 4);
        due("spoilt", x.printer(3), 0);
        x.pass(1);
        due("done", x.ofReceipt(1, 9), 2);
        x.undo();
        due("not done", x.ofReceipt(1, 9), -6);
        due("it is printed", x.printer(0), 1);
        due("ticks", x.count(0), 2);
        due("left", x.printer(1), 36);
        due("lines", x.printer(2), 4);
        due("done so far", x.count(3), 0);
        due("undo()", x.undo(), 3);
        due("it waits", x.ofReceipt(1, 0), 0);
        due("none is printed", x.printer(0), -6);
    }

    private static void save() {
        DUE.part("promise 27");
        Rolls x = new Rolls();
        due("no slot", x.save(-1), -2);
        due("no slot", x.save(2), -2);
        due("no slot", x.save(LEAST), -2);
        closeOne(x, 0, 1);
        due("changes", x.count(9), 2);
        due("save(0)", x.save(0), 1);
        due("no change", x.count(9), 2);
        closeOne(x, 0, 1);
        due("save(1)", x.save(1), 2);
        closeOne(x, 0, 1);
        x.restore(0);
        due("closed", x.count(1), 1);
        x.restore(1);
        due("closed", x.count(1), 2);
        due("overwrites", x.save(0), 2);
        x.pass(9);
        due("restore(0)", x.restore(0), 2);
        x.undo();
        x.undo();
        due("undo leaves the slots", x.restore(0), 2);
        due("restore(1)", x.restore(1), 2);
    }

    /** The places of the ledger are taken by other receipts before the old ones come back. */
    private static void restoreOfReceipts() {
        Rolls x = new Rolls();
        Due.ring(x, 1, THIRTY, 1, 300, 2);
        x.strike(1, 0);
        x.close(1, 2);
        x.pass(3);
        x.set(ReceiptRolls.WIDTH, 30);
        Due.ring(x, 2, "b", 1, 200, 0);
        x.close(2, 3);
        x.pass(1);
        int[] first = {2, 1, 2, 1, 1, 0, 5, 5, 24, 2};
        int[] second = {1, 2, 3, 1, 0, 200, 3, 2, 30, -6};
        x.save(0);
        x.set(ReceiptRolls.WIDTH, 16);
        for (int i = 3; i <= 22; i++) {
            closeOne(x, 0, 1);
            x.pass(4);
        }
        x.save(1);
        due("1 is forgotten", x.ofReceipt(1, 0), -1);
        due("2 is forgotten", x.ofReceipt(2, 0), -1);
        x.restore(0);
        for (int what = 0; what < 10; what++) {
            due("ofReceipt(1, " + what + ")", x.ofReceipt(1, what), first[what]);
            due("ofReceipt(2, " + what + ")", x.ofReceipt(2, what), second[what]);
        }
        dueLine(x, 1, 2, "qrstuvwxyzabcd      3.00");
        dueLine(x, 2, 1, "b                         2.00");
        x.set(ReceiptRolls.SPEED, 9);
        for (int i = 3; i <= 9; i++) {
            closeOne(x, 0, 1);
        }
        x.pass(3);
        due("9 are done", x.count(3), 9);
        due("1 was the first", x.ofReceipt(1, 0), -1);
        due("2 was the next", x.ofReceipt(2, 0), 2);
    }

    private static void restore() {
        DUE.part("promise 28");
        Rolls x = new Rolls();
        due("no slot", x.restore(-1), -2);
        due("no slot", x.restore(2), -2);
        due("no slot", x.restore(MOST), -2);
        due("nothing saved", x.restore(0), -5);
        Due.ring(x, 0, "tea", 1, 100, 1);
        x.close(0, 2);
        Due.ring(x, 0, "cake", 2, 200, 2);
        x.pass(1);
        x.set(ReceiptRolls.SPEED, 9);
        x.save(1);
        due("nothing saved", x.restore(0), -5);
        x.strike(0, 0);
        x.close(0, 0);
        x.pass(5);
        x.newRoll();
        x.set(ReceiptRolls.SPEED, 1);
        Due.put(x, "abc");
        due("restore(1)", x.restore(1), 1);
        due("a change", x.count(9), 6);
        due("the pad stays", x.count(8), 3);
        int[] counts = {1, 1, 0, 0, 0, 24, 40, 9};
        for (int what = 0; what < counts.length; what++) {
            due("count(" + what + ")", x.count(what), counts[what]);
        }
        int[] printer = {1, 38, 2, 0, 1, 0};
        for (int what = 0; what < printer.length; what++) {
            due("printer(" + what + ")", x.printer(what), printer[what]);
        }
        due("its lines", x.ofReceipt(1, 7), 2);
        due("total", x.ofTill(0, 2), 400);
        due("strike", x.strike(0, 0), 400);
        due("the slot keeps it", x.restore(1), 1);
        due("total", x.ofTill(0, 2), 400);
        due("undo()", x.undo(), 5);
        due("struck again", x.ofTill(0, 2), 0);
        due("undo()", x.undo(), 4);
        due("undo()", x.undo(), 3);
        due("undone to what was restored over", x.count(1), 2);
        due("SPEED", x.count(7), 1);
        due("rolls", x.printer(4), 2);
    }
}
