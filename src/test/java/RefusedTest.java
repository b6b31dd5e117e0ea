import java.util.List;
import java.util.function.Consumer;
import java.util.function.ToIntFunction;

/**
 * "A method that fails returns one of the error codes; it names its errors in the order in which they are checked, and the
 * first one that applies is returned. A call that returns an error changes nothing." Also what only asks changes nothing.
 */
public final class RefusedTest {
    private static final int NO_SUCH = -1, BAD_VALUE = -2, BAD_TEXT = -3, TOO_MANY = -4, NOT_POSSIBLE = -5, NONE = -6;
    private static final int LEAST = Integer.MIN_VALUE, MOST = Integer.MAX_VALUE;
    private static final int[] NO_TILLS = {-1, 3, LEAST, MOST};
    private static final Due DUE = new Due();

    private final Consumer<Rolls> made;
    private final List<String> before;

    /** Objects that were made in the same way. */
    private RefusedTest(Consumer<Rolls> made) {
        this.made = made;
        before = Seen.whole(made);
    }

    public static void main(String[] args) {
        set();
        ring();
        strike();
        close();
        hurry();
        tear();
        pass();
        item();
        ofTill();
        ofReceipt();
        sign();
        waiting();
        printerAndCount();
        between();
        whatIfs();
        put();
        fault();
        undo();
        saveAndRestore();
        questions();
        DUE.end();
    }

    /** The call answers that, and all is as it was before it. */
    private void due(String call, ToIntFunction<Rolls> asked, int want) {
        Rolls x = new Rolls();
        made.accept(x);
        DUE.due(call, asked.applyAsInt(x), want);
        List<String> after = Seen.whole(made.andThen(y -> asked.applyAsInt(y)));
        DUE.due(call + " leaves", Seen.difference(before, after), "");
    }

    private static void set() {
        DUE.part("set: BAD_VALUE");
        RefusedTest busy = new RefusedTest(Made::busy);
        for (int setting : new int[] {-1, 3, LEAST, MOST}) {
            busy.due("set(" + setting + ", 20)", x -> x.set(setting, 20), BAD_VALUE);
        }
        int[][] out = {{15, 41}, {4, 201}, {0, 10}};
        for (int i = 0; i < out.length; i++) {
            int setting = i;
            for (int value : new int[] {out[i][0], out[i][1], -1, LEAST, MOST}) {
                busy.due("set(" + setting + ", " + value + ")", x -> x.set(setting, value), BAD_VALUE);
            }
        }
        busy.due("both: set(3, 0)", x -> x.set(3, 0), BAD_VALUE);
    }

    private static void ring() {
        RefusedTest busy = new RefusedTest(Made::busy);
        RefusedTest full = new RefusedTest(Made::full);
        RefusedTest faulty = new RefusedTest(Made::faulty);
        RefusedTest fresh = new RefusedTest(x -> { });
        DUE.part("ring: NO_SUCH");
        for (int till : NO_TILLS) {
            busy.due("ring(" + till + ", 1, 1, 0)", x -> x.ring(till, 1, 1, 0), NO_SUCH);
            faulty.due("ahead of BAD_TEXT", x -> x.ring(till, 1, 1, 0), NO_SUCH);
            busy.due("ahead of BAD_VALUE", x -> x.ring(till, 0, 1, 0), NO_SUCH);
        }
        faulty.due("ahead of both", x -> x.ring(3, 0, 0, 3), NO_SUCH);
        DUE.part("ring: BAD_TEXT");
        faulty.due("ring(0, 1, 1, 0)", x -> x.ring(0, 1, 1, 0), BAD_TEXT);
        fresh.due("without a name", x -> x.ring(0, 1, 1, 0), BAD_TEXT);
        faulty.due("ahead of BAD_VALUE", x -> x.ring(0, 0, 1, 0), BAD_TEXT);
        faulty.due("ahead of TOO_MANY", x -> x.ring(2, 1, 1, 0), BAD_TEXT);
        faulty.due("ahead of both", x -> x.ring(2, 1, 1, 3), BAD_TEXT);
        DUE.part("ring: BAD_VALUE");
        for (int wrong : new int[] {-1, 0, 100, LEAST, MOST}) {
            busy.due("many " + wrong, x -> x.ring(1, wrong, 1, 0), BAD_VALUE);
        }
        for (int wrong : new int[] {-1, 0, 10000, LEAST, MOST}) {
            busy.due("price " + wrong, x -> x.ring(1, 1, wrong, 0), BAD_VALUE);
        }
        for (int wrong : new int[] {-1, 3, LEAST, MOST}) {
            busy.due("tax " + wrong, x -> x.ring(1, 1, 1, wrong), BAD_VALUE);
        }
        full.due("many ahead of TOO_MANY", x -> x.ring(2, 0, 1, 0), BAD_VALUE);
        full.due("price ahead of TOO_MANY", x -> x.ring(2, 1, 10000, 0), BAD_VALUE);
        full.due("tax ahead of TOO_MANY", x -> x.ring(2, 1, 1, 3), BAD_VALUE);
        DUE.part("ring: TOO_MANY");
        full.due("ring(2, 1, 1, 0)", x -> x.ring(2, 1, 1, 0), TOO_MANY);
        busy.due("one of them struck", x -> x.ring(0, 1, 1, 0), TOO_MANY);
    }

    private static void strike() {
        RefusedTest busy = new RefusedTest(Made::busy);
        DUE.part("strike: NO_SUCH");
        for (int till : NO_TILLS) {
            busy.due("strike(" + till + ", 0)", x -> x.strike(till, 0), NO_SUCH);
        }
        int[][] items = {{0, -1}, {0, 12}, {0, LEAST}, {0, MOST}, {1, 2}, {1, 11}, {1, 32}, {1, -32}, {2, 0}};
        for (int[] i : items) {
            busy.due("strike(" + i[0] + ", " + i[1] + ")", x -> x.strike(i[0], i[1]), NO_SUCH);
        }
        DUE.part("strike: NOT_POSSIBLE");
        busy.due("the first", x -> x.strike(1, 0), NOT_POSSIBLE);
        busy.due("the last of 12", x -> x.strike(0, 11), NOT_POSSIBLE);
    }

    private static void close() {
        RefusedTest busy = new RefusedTest(Made::busy);
        RefusedTest full = new RefusedTest(Made::full);
        DUE.part("close: NO_SUCH");
        for (int till : NO_TILLS) {
            busy.due("close(" + till + ", 0)", x -> x.close(till, 0), NO_SUCH);
        }
        busy.due("ahead of BAD_VALUE", x -> x.close(3, 4), NO_SUCH);
        full.due("ahead of TOO_MANY", x -> x.close(-1, 0), NO_SUCH);
        full.due("ahead of both", x -> x.close(-1, -1), NO_SUCH);
        DUE.part("close: BAD_VALUE");
        for (int priority : new int[] {-1, 4, LEAST, MOST}) {
            busy.due("close(0, " + priority + ")", x -> x.close(0, priority), BAD_VALUE);
            busy.due("ahead of NOT_POSSIBLE", x -> x.close(2, priority), BAD_VALUE);
            full.due("ahead of TOO_MANY", x -> x.close(0, priority), BAD_VALUE);
            full.due("ahead of both", x -> x.close(1, priority), BAD_VALUE);
        }
        DUE.part("close: NOT_POSSIBLE");
        busy.due("close(2, 0)", x -> x.close(2, 0), NOT_POSSIBLE);
        full.due("ahead of TOO_MANY", x -> x.close(1, 0), NOT_POSSIBLE);
        DUE.part("close: TOO_MANY");
        full.due("close(0, 0)", x -> x.close(0, 0), TOO_MANY);
        full.due("close(2, 3)", x -> x.close(2, 3), TOO_MANY);
    }

    private static void hurry() {
        RefusedTest busy = new RefusedTest(Made::busy);
        DUE.part("hurry: NO_SUCH");
        for (int receipt : new int[] {0, -1, 5, LEAST, MOST}) {
            busy.due("hurry(" + receipt + ", 0)", x -> x.hurry(receipt, 0), NO_SUCH);
            busy.due("ahead of BAD_VALUE", x -> x.hurry(receipt, 4), NO_SUCH);
        }
        DUE.part("hurry: BAD_VALUE");
        for (int priority : new int[] {-1, 4, LEAST, MOST}) {
            busy.due("hurry(3, " + priority + ")", x -> x.hurry(3, priority), BAD_VALUE);
            busy.due("printed, ahead of NOT_POSSIBLE", x -> x.hurry(1, priority), BAD_VALUE);
            busy.due("done, ahead of NOT_POSSIBLE", x -> x.hurry(2, priority), BAD_VALUE);
        }
        DUE.part("hurry: NOT_POSSIBLE");
        busy.due("it is printed", x -> x.hurry(1, 0), NOT_POSSIBLE);
        busy.due("it is done", x -> x.hurry(2, 3), NOT_POSSIBLE);
    }

    private static void tear() {
        RefusedTest busy = new RefusedTest(Made::busy);
        RefusedTest full = new RefusedTest(Made::full);
        RefusedTest rollOut = new RefusedTest(Made::rollOut);
        DUE.part("tear: BAD_VALUE");
        for (int lines : new int[] {-1, 0, 100, LEAST, MOST}) {
            busy.due("tear(" + lines + ")", x -> x.tear(lines), BAD_VALUE);
            full.due("ahead of NOT_POSSIBLE", x -> x.tear(lines), BAD_VALUE);
        }
        DUE.part("tear: NOT_POSSIBLE");
        full.due("no receipt is printed", x -> x.tear(1), NOT_POSSIBLE);
        busy.due("one line was", x -> x.tear(2), NOT_POSSIBLE);
        busy.due("one line was", x -> x.tear(99), NOT_POSSIBLE);
        rollOut.due("no line was", x -> x.tear(1), NOT_POSSIBLE);
    }

    private static void pass() {
        RefusedTest busy = new RefusedTest(Made::busy);
        RefusedTest late = new RefusedTest(x -> Made.late(x, 9999));
        DUE.part("pass: BAD_VALUE");
        for (int ticks : new int[] {-1, 0, 100, LEAST, MOST}) {
            busy.due("pass(" + ticks + ")", x -> x.pass(ticks), BAD_VALUE);
            late.due("ahead of NOT_POSSIBLE", x -> x.pass(ticks), BAD_VALUE);
        }
        DUE.part("pass: NOT_POSSIBLE");
        late.due("pass(1)", x -> x.pass(1), NOT_POSSIBLE);
        late.due("pass(99)", x -> x.pass(99), NOT_POSSIBLE);
        RefusedTest nearly = new RefusedTest(x -> Made.late(x, 9998));
        nearly.due("at 9998: pass(2)", x -> x.pass(2), NOT_POSSIBLE);
        nearly.due("at 9998: pass(99)", x -> x.pass(99), NOT_POSSIBLE);
    }

    private static void item() {
        RefusedTest busy = new RefusedTest(Made::busy);
        DUE.part("item: NO_SUCH");
        for (int what : new int[] {0, 6, -1, 7}) {
            for (int till : NO_TILLS) {
                busy.due("item(" + till + ", 0, " + what + ")", x -> x.item(till, 0, what), NO_SUCH);
            }
            for (int item : new int[] {-1, 2, 32, LEAST, MOST}) {
                busy.due("item(1, " + item + ", " + what + ")", x -> x.item(1, item, what), NO_SUCH);
            }
            busy.due("item(0, 12, " + what + ")", x -> x.item(0, 12, what), NO_SUCH);
            busy.due("item(2, 0, " + what + ")", x -> x.item(2, 0, what), NO_SUCH);
        }
        DUE.part("item: BAD_VALUE");
        for (int what : new int[] {-1, 7, LEAST, MOST}) {
            busy.due("item(1, 0, " + what + ")", x -> x.item(1, 0, what), BAD_VALUE);
        }
    }

    private static void ofTill() {
        RefusedTest busy = new RefusedTest(Made::busy);
        DUE.part("ofTill: NO_SUCH");
        for (int till : NO_TILLS) {
            for (int what : new int[] {0, 5, -1, 6}) {
                busy.due("ofTill(" + till + ", " + what + ")", x -> x.ofTill(till, what), NO_SUCH);
            }
        }
        DUE.part("ofTill: BAD_VALUE");
        for (int what : new int[] {-1, 6, LEAST, MOST}) {
            busy.due("ofTill(1, " + what + ")", x -> x.ofTill(1, what), BAD_VALUE);
        }
    }

    private static void ofReceipt() {
        RefusedTest busy = new RefusedTest(Made::busy);
        DUE.part("ofReceipt: NO_SUCH");
        for (int receipt : new int[] {0, -1, -2, 5, LEAST, MOST}) {
            for (int what : new int[] {0, 9, -1, 10}) {
                busy.due("ofReceipt(" + receipt + ", " + what + ")", x -> x.ofReceipt(receipt, what), NO_SUCH);
            }
        }
        DUE.part("ofReceipt: BAD_VALUE");
        for (int what : new int[] {-1, 10, LEAST, MOST}) {
            busy.due("ofReceipt(1, " + what + ")", x -> x.ofReceipt(1, what), BAD_VALUE);
        }
        DUE.part("ofReceipt: NONE only without an error");
        busy.due("ofReceipt(1, 9)", x -> x.ofReceipt(1, 9), NONE);
        busy.due("ofReceipt(3, 9)", x -> x.ofReceipt(3, 9), NONE);
    }

    private static void sign() {
        RefusedTest busy = new RefusedTest(Made::busy);
        DUE.part("sign: NO_SUCH");
        for (int column : new int[] {0, -1, 24, LEAST, MOST}) {
            for (int receipt : new int[] {-3, 5, LEAST, MOST}) {
                busy.due("sign(" + receipt + ", 0, " + column + ")", x -> x.sign(receipt, 0, column), NO_SUCH);
            }
            for (int line : new int[] {-1, 4, LEAST, MOST}) {
                busy.due("sign(1, " + line + ", " + column + ")", x -> x.sign(1, line, column), NO_SUCH);
            }
            busy.due("sign(-2, 2, " + column + ")", x -> x.sign(-2, 2, column), NO_SUCH);
        }
        DUE.part("sign: BAD_VALUE");
        for (int column : new int[] {-1, 24, LEAST, MOST}) {
            busy.due("sign(1, 3, " + column + ")", x -> x.sign(1, 3, column), BAD_VALUE);
            busy.due("sign(0, 0, " + column + ")", x -> x.sign(0, 0, column), BAD_VALUE);
        }
    }

    private static void waiting() {
        RefusedTest busy = new RefusedTest(Made::busy);
        DUE.part("waiting: NO_SUCH");
        for (int rank : new int[] {-1, 2, LEAST, MOST}) {
            busy.due("waiting(" + rank + ")", x -> x.waiting(rank), NO_SUCH);
        }
        new RefusedTest(Made::full).due("waiting(10)", x -> x.waiting(10), NO_SUCH);
        new RefusedTest(Made::named).due("waiting(0)", x -> x.waiting(0), NO_SUCH);
    }

    private static void printerAndCount() {
        RefusedTest busy = new RefusedTest(Made::busy);
        DUE.part("printer: BAD_VALUE");
        for (int what : new int[] {-1, 6, LEAST, MOST}) {
            busy.due("printer(" + what + ")", x -> x.printer(what), BAD_VALUE);
        }
        DUE.part("count: BAD_VALUE");
        for (int what : new int[] {-1, 10, LEAST, MOST}) {
            busy.due("count(" + what + ")", x -> x.count(what), BAD_VALUE);
        }
        DUE.part("printer: NONE");
        new RefusedTest(Made::full).due("printer(0)", x -> x.printer(0), NONE);
    }

    private static void between() {
        RefusedTest busy = new RefusedTest(Made::busy);
        DUE.part("between: BAD_VALUE");
        int[][] calls = {{2, 1, 0}, {1, 0, 1}, {MOST, LEAST, 0}, {LEAST + 1, LEAST, 0}, {MOST, MOST - 1, 0}, {1, 4, -1},
            {1, 4, 3}, {1, 4, LEAST}, {1, 4, MOST}, {2, 1, 3}, {1, 0, 2}, {9, 8, 2}};
        for (int[] c : calls) {
            String call = "between(" + c[0] + ", " + c[1] + ", " + c[2] + ")";
            busy.due(call, x -> x.between(c[0], c[1], c[2]), BAD_VALUE);
        }
        DUE.part("between: NONE only without an error");
        busy.due("between(5, 9, 2)", x -> x.between(5, 9, 2), NONE);
    }

    private static void whatIfs() {
        RefusedTest busy = new RefusedTest(Made::busy);
        RefusedTest rollOut = new RefusedTest(Made::rollOut);
        DUE.part("doneIn: NO_SUCH");
        for (int receipt : new int[] {0, -1, 5, LEAST, MOST}) {
            busy.due("doneIn(" + receipt + ")", x -> x.doneIn(receipt), NO_SUCH);
        }
        rollOut.due("ahead of NONE", x -> x.doneIn(3), NO_SUCH);
        rollOut.due("NONE", x -> x.doneIn(2), NONE);
        DUE.part("bestWidth: NO_SUCH, BAD_VALUE");
        for (int what : new int[] {-1, 2, LEAST, MOST}) {
            for (int till : NO_TILLS) {
                busy.due("bestWidth(" + till + ", " + what + ")", x -> x.bestWidth(till, what), NO_SUCH);
            }
            busy.due("bestWidth(1, " + what + ")", x -> x.bestWidth(1, what), BAD_VALUE);
        }
        DUE.part("ifStruck: NO_SUCH");
        for (int till : NO_TILLS) {
            busy.due("ifStruck(" + till + ", 0)", x -> x.ifStruck(till, 0), NO_SUCH);
        }
        int[][] items = {{0, -1}, {0, 12}, {1, 2}, {1, 32}, {1, -32}, {1, LEAST}, {1, MOST}, {2, 0}};
        for (int[] i : items) {
            busy.due("ifStruck(" + i[0] + ", " + i[1] + ")", x -> x.ifStruck(i[0], i[1]), NO_SUCH);
        }
    }

    private static void put() {
        RefusedTest busy = new RefusedTest(Made::busy);
        RefusedTest padFull = new RefusedTest(Made::padFull);
        long[] wrong = {0, 32, 127, 128, 255, 'a' << 8, 'a' << 16 | 'b', 'a' << 8 | 32, 32 << 8 | 'a', 127 << 8 | 'a', -1,
            Long.MIN_VALUE, Long.MAX_VALUE, (long) 'a' << 56, (long) 'a' << 56 | 'b', Long.MIN_VALUE | 'a',
            Due.packed("abcdefg") | (long) 128 << 56, Due.packed("abcdefg") | (long) 127 << 56,
            Due.packed("abcdefg") | (long) 32 << 56};
        for (long number : wrong) {
            DUE.part("put: BAD_VALUE");
            busy.due("put(" + number + ")", x -> x.put(number), BAD_VALUE);
            DUE.part("put: BAD_VALUE ahead of TOO_MANY");
            padFull.due("put(" + number + ")", x -> x.put(number), BAD_VALUE);
        }
        DUE.part("put: TOO_MANY");
        padFull.due("one", x -> x.put('a'), TOO_MANY);
        padFull.due("eight", x -> x.put(Due.packed("abcdefgh")), TOO_MANY);
        Consumer<Rolls> nearly = x -> Due.put(x, Made.THIRTY + Made.THIRTY + "abcdefghijklmnopqrs");
        new RefusedTest(nearly).due("two where one may be", x -> x.put('a' << 8 | 'b'), TOO_MANY);
    }

    private static void fault() {
        DUE.part("fault: NONE");
        new RefusedTest(Made::busy).due("fault()", x -> x.fault(), NONE);
    }

    private static void undo() {
        DUE.part("undo: NOT_POSSIBLE");
        new RefusedTest(Made::named).due("undo()", x -> x.undo(), NOT_POSSIBLE);
        Consumer<Rolls> undone = x -> {
            Made.busy(x);
            for (int i = 0; i < 6; i++) {
                x.undo();
            }
        };
        new RefusedTest(undone).due("undo()", x -> x.undo(), NOT_POSSIBLE);
    }

    private static void saveAndRestore() {
        RefusedTest busy = new RefusedTest(Made::busy);
        RefusedTest named = new RefusedTest(Made::named);
        for (int slot : new int[] {-1, 2, LEAST, MOST}) {
            DUE.part("save: BAD_VALUE");
            busy.due("save(" + slot + ")", x -> x.save(slot), BAD_VALUE);
            DUE.part("restore: BAD_VALUE");
            busy.due("restore(" + slot + ")", x -> x.restore(slot), BAD_VALUE);
            named.due("restore(" + slot + "), without anything saved", x -> x.restore(slot), BAD_VALUE);
        }
        DUE.part("restore: NOT_POSSIBLE");
        busy.due("restore(1)", x -> x.restore(1), NOT_POSSIBLE);
        named.due("restore(0)", x -> x.restore(0), NOT_POSSIBLE);
        new RefusedTest(x -> x.save(1)).due("restore(0)", x -> x.restore(0), NOT_POSSIBLE);
    }

    /** What there is, and what if: nothing changes. */
    private static void questions() {
        DUE.part("questions");
        Consumer<Rolls> asked = x -> {
            Seen.state(x);
            x.fault();
            x.count(8);
            x.count(9);
        };
        for (Consumer<Rolls> made : List.<Consumer<Rolls>>of(Made::busy, Made::full, Made::rollOut)) {
            List<String> before = Seen.whole(made);
            DUE.due("all questions leave", Seen.difference(before, Seen.whole(made.andThen(asked))), "");
        }
    }
}
