import java.util.ArrayList;
import java.util.List;
import java.util.function.Consumer;
import java.util.function.ToIntFunction;

/** The sentences of the promises 23 to 28 that name a boundary, and "This is a change": each has a test of its own. */
public final class UndoBoundsTest {
    private static final int BAD_VALUE = -2, BAD_TEXT = -3, TOO_MANY = -4, NOT_POSSIBLE = -5, NONE = -6;
    private static final int LEAST = Integer.MIN_VALUE, MOST = Integer.MAX_VALUE;
    private static final Due DUE = new Due();

    private UndoBoundsTest() {
    }

    public static void main(String[] args) {
        putCharacters();
        putCodes();
        putBitsAbove();
        putAppends();
        putUpTo80();
        wipe();
        faultNone();
        undoNone();
        undoSix();
        undoDropsTheOldest();
        changesAreRecorded();
        changesWithoutADifference();
        noChanges();
        refusedOnesAreNotRecorded();
        undoLeavesThePad();
        undoLeavesTheSlots();
        undoOfARestore();
        saveSlots();
        saveOverwrites();
        saveLeavesThePadAndTheHistory();
        restoreSlots();
        restoreNothing();
        restoreKeeps();
        restoreBringsBack();
        restoreOverOthers();
        undoOverOthers();
        DUE.end();
    }

    private static void due(String call, long got, long want) {
        DUE.due(call, got, want);
    }

    private static void dueSame(String call, List<String> before, List<String> after) {
        DUE.due(call, Seen.difference(before, after), "");
    }

    private static Rolls busy() {
        Rolls x = new Rolls();
        Made.busy(x);
        return x;
    }

    private static void putCharacters() {
        DUE.part("promise 23: 1 to 8 characters; BAD_VALUE if there is no character");
        due("none", new Rolls().put(0), BAD_VALUE);
        for (int many = 1; many <= 8; many++) {
            Rolls x = new Rolls();
            due("put " + many, x.put(Due.packed("abcdefgh".substring(0, many))), many);
            due("fault", x.fault(), NONE);
        }
    }

    private static void putCodes() {
        DUE.part("promise 23: BAD_VALUE if a code is not 33 to 126");
        for (int place = 0; place < 8; place++) {
            for (int code = 0; code <= 255; code++) {
                Rolls x = new Rolls();
                long number = Due.packed("aaaaaaaa") & ~(255L << 8 * place) | (long) code << 8 * place;
                // With a code of 0 at the top there are only 7 characters.
                int want = code >= 33 && code <= 126 ? 8 : code == 0 && place == 7 ? 7 : BAD_VALUE;
                due("code " + code + " at " + place, x.put(number), want);
                due("length", x.count(8), Math.max(0, want));
            }
        }
        due("33", new Rolls().put(33), 1);
        due("126", new Rolls().put(126), 1);
        due("32", new Rolls().put(32), BAD_VALUE);
        due("127", new Rolls().put(127), BAD_VALUE);
    }

    private static void putBitsAbove() {
        DUE.part("promise 23: BAD_VALUE if a bit above 8 bits that are 0 is not 0");
        for (int many = 0; many <= 6; many++) {
            long number = many == 0 ? 0 : Due.packed("abcdef".substring(0, many));
            for (int bit = 8 * many + 8; bit < 64; bit++) {
                due("bit " + bit + " above " + many, new Rolls().put(number | 1L << bit), BAD_VALUE);
            }
        }
        due("all bits", new Rolls().put(-1), BAD_VALUE);
        due("the highest bit", new Rolls().put(Long.MIN_VALUE), BAD_VALUE);
        due("the highest bit of 8 characters", new Rolls().put(Due.packed("aaaaaaaa") | Long.MIN_VALUE), BAD_VALUE);
    }

    private static void putAppends() {
        DUE.part("promise 23: its lowest 8 bits are the last character, the next 8 bits the one before, and so on");
        Rolls x = new Rolls();
        x.put((long) 'a');
        x.put('b' << 8 | 'c');
        x.put(Due.packed("defghijk"));
        x.ring(0, 1, 1, 0);
        DUE.due("line", Due.line(x, 0, 1), "abcdefghijk         0.01");
    }

    private static void putUpTo80() {
        DUE.part("promise 23: TOO_MANY if the pad would be longer than 80");
        for (int many = 1; many <= 8; many++) {
            long number = Due.packed("abcdefgh".substring(0, many));
            for (int length = 71; length <= 80; length++) {
                Rolls x = new Rolls();
                Due.put(x, "~".repeat(length));
                due(many + " behind " + length, x.put(number), length + many > 80 ? TOO_MANY : length + many);
                due("length", x.count(8), length + many > 80 ? length : length + many);
            }
        }
    }

    private static void wipe() {
        DUE.part("promise 24: empties the pad, and returns the length that it had");
        for (int length : new int[] {0, 1, 79, 80}) {
            Rolls x = new Rolls();
            Due.put(x, "a".repeat(length));
            due("wipe", x.wipe(), length);
            due("length", x.count(8), 0);
            due("fault", x.fault(), 0);
            due("wipe", x.wipe(), 0);
            due("no change", x.count(9), 0);
        }
    }

    private static void faultNone() {
        DUE.part("promise 25: NONE if there is none");
        for (int length : new int[] {0, 1, 30, 31, 80}) {
            Rolls x = new Rolls();
            Due.put(x, "a".repeat(length));
            due("fault at " + length, x.fault(), length == 0 ? 0 : length <= 30 ? NONE : 30);
            due("the pad stays", x.count(8), length);
        }
    }

    private static void undoNone() {
        DUE.part("promise 26: NOT_POSSIBLE if there is none");
        Rolls x = new Rolls();
        due("undo", x.undo(), NOT_POSSIBLE);
        x.newRoll();
        due("undo", x.undo(), 0);
        due("undo", x.undo(), NOT_POSSIBLE);
        due("rolls", x.printer(4), 1);
        x.newRoll();
        due("undo", x.undo(), 0);
        due("undo", x.undo(), NOT_POSSIBLE);
    }

    private static void undoSix() {
        DUE.part("promise 26: a history of at most 6 states is kept; returns how many changes can be undone then");
        for (int changes = 1; changes <= 8; changes++) {
            Rolls x = new Rolls();
            for (int i = 1; i <= changes; i++) {
                x.newRoll();
                due("changes", x.count(9), Math.min(i, 6));
            }
            for (int i = 1; i <= Math.min(changes, 6); i++) {
                due("undo", x.undo(), Math.min(changes, 6) - i);
                due("rolls", x.printer(4), 1 + changes - i);
            }
            due("one more", x.undo(), NOT_POSSIBLE);
            due("rolls", x.printer(4), 1 + Math.max(0, changes - 6));
        }
    }

    private static void undoDropsTheOldest() {
        DUE.part("promise 26: when one more is recorded, the oldest one is dropped");
        Rolls x = new Rolls();
        for (int i = 0; i < 6; i++) {
            x.set(ReceiptRolls.WIDTH, 20 + i);
        }
        x.undo();
        x.undo();
        for (int i = 0; i < 3; i++) {
            x.set(ReceiptRolls.WIDTH, 30 + i);
        }
        due("changes", x.count(9), 6);
        int[] widths = {31, 30, 23, 22, 21, 20};
        for (int i = 0; i < 6; i++) {
            due("undo", x.undo(), 5 - i);
            due("WIDTH", x.count(5), widths[i]);
        }
        due("the first state is dropped", x.undo(), NOT_POSSIBLE);
    }

    /** The change is recorded, and undone by one undo; beforehand brings an object that is as yet without changes there. */
    private static void dueChange(String call, Consumer<Rolls> beforehand, ToIntFunction<Rolls> change) {
        Rolls x = new Rolls();
        beforehand.accept(x);
        int changes = x.count(9);
        List<String> before = Seen.state(x);
        due(call + " is no error", change.applyAsInt(x) >= 0 ? 1 : 0, 1);
        due(call + " is recorded", x.count(9), Math.min(changes + 1, 6));
        due("undo of " + call, x.undo(), Math.min(changes, 5));
        dueSame("undo of " + call, before, Seen.state(x));
    }

    private static void changesAreRecorded() {
        DUE.part("promise 26: each method that is a change, and returns no error, records the state before it");
        for (Consumer<Rolls> beforehand : List.<Consumer<Rolls>>of(Made::busy, Made::busyAndUndone)) {
            dueChange("set(0, 16)", beforehand, x -> x.set(0, 16));
            dueChange("set(1, 5)", beforehand, x -> x.set(1, 5));
            dueChange("set(2, 9)", beforehand, x -> x.set(2, 9));
            dueChange("ring(2, 99, 9999, 2)", beforehand, x -> x.ring(2, 99, 9999, 2));
            dueChange("strike(0, 0)", beforehand, x -> x.strike(0, 0));
            dueChange("close(0, 3)", beforehand, x -> x.close(0, 3));
            dueChange("hurry(3, 3)", beforehand, x -> x.hurry(3, 3));
            dueChange("newRoll()", beforehand, x -> x.newRoll());
            dueChange("tear(1)", beforehand, x -> x.tear(1));
            dueChange("pass(99)", beforehand, x -> x.pass(99));
            dueChange("restore(0)", beforehand, x -> x.restore(0));
        }
    }

    private static void changesWithoutADifference() {
        DUE.part("promise 26: (also if nothing is different then)");
        dueChange("set(0, 24)", x -> { }, x -> x.set(0, 24));
        dueChange("set(1, 40)", x -> { }, x -> x.set(1, 40));
        dueChange("set(2, 2)", x -> { }, x -> x.set(2, 2));
        dueChange("hurry(1, 2)", x -> Made.closeOne(x, 0, 2), x -> x.hurry(1, 2));
        dueChange("restore(0)", x -> x.save(0), x -> x.restore(0));
        dueChange("restore(1)", x -> x.save(1), x -> x.restore(1));
    }

    private static void noChanges() {
        DUE.part("promise 26: what is no change is not recorded");
        Rolls x = new Rolls();
        x.put('a');
        due("put", x.count(9), 0);
        x.wipe();
        due("wipe", x.count(9), 0);
        x.save(0);
        x.save(1);
        due("save", x.count(9), 0);
        Seen.state(x);
        x.fault();
        due("questions", x.count(9), 0);
        x.newRoll();
        x.newRoll();
        x.undo();
        due("undo", x.count(9), 1);
    }

    private static void refusedOnesAreNotRecorded() {
        DUE.part("promise 26: an error is not recorded");
        Rolls x = new Rolls();
        due("set", x.set(0, 41), BAD_VALUE);
        due("ring", x.ring(0, 1, 1, 0), BAD_TEXT);
        due("strike", x.strike(0, 0), -1);
        due("close", x.close(0, 0), NOT_POSSIBLE);
        due("hurry", x.hurry(1, 0), -1);
        due("tear", x.tear(1), NOT_POSSIBLE);
        due("pass", x.pass(100), BAD_VALUE);
        due("restore", x.restore(0), NOT_POSSIBLE);
        due("changes", x.count(9), 0);
        due("undo", x.undo(), NOT_POSSIBLE);
    }

    private static void undoLeavesThePad() {
        DUE.part("promise 26: everything except the pad");
        Rolls x = new Rolls();
        Made.named(x);
        x.ring(0, 1, 1, 0);
        due("undo a ring", x.undo(), 0);
        due("the pad stays empty", x.count(8), 0);
        x.newRoll();
        Due.put(x, "abc");
        due("undo ahead of the pad", x.undo(), 0);
        due("the pad stays", x.count(8), 3);
        x.newRoll();
        x.wipe();
        x.undo();
        due("the pad stays empty", x.count(8), 0);
    }

    private static void undoLeavesTheSlots() {
        DUE.part("promise 26: everything except the slots");
        Rolls x = new Rolls();
        x.newRoll();
        x.save(1);
        x.undo();
        due("rolls", x.printer(4), 1);
        due("restore", x.restore(1), 0);
        due("rolls", x.printer(4), 2);
        due("the other one is empty", x.restore(0), NOT_POSSIBLE);
    }

    private static void undoOfARestore() {
        DUE.part("promise 28: this is a change");
        Rolls x = busy();
        List<String> before = Seen.state(x);
        x.restore(0);
        due("it can be undone", x.count(9), 6);
        x.undo();
        dueSame("undo", before, Seen.state(x));
        due("the slot is left", x.restore(0), 4);
    }

    private static void saveSlots() {
        DUE.part("promise 27: slot: 0 or 1; returns how many receipts were closed so far");
        Rolls x = new Rolls();
        for (int slot : new int[] {-1, 2, LEAST, MOST}) {
            due("save(" + slot + ")", x.save(slot), BAD_VALUE);
        }
        due("save(0)", x.save(0), 0);
        Made.closeOne(x, 0, 0);
        due("save(1)", x.save(1), 1);
        due("restore(0)", x.restore(0), 0);
        due("restore(1)", x.restore(1), 1);
    }

    private static void saveOverwrites() {
        DUE.part("promise 27: and overwrites what was saved there");
        Rolls x = new Rolls();
        for (int i = 0; i <= 9; i++) {
            due("save(0)", x.save(0), i);
            due("save(1)", i == 0 ? x.save(1) : 0, 0);
            Made.closeOne(x, 0, 0);
        }
        due("restore(0)", x.restore(0), 9);
        due("restore(1)", x.restore(1), 0);
        due("closed", x.count(1), 0);
    }

    private static void saveLeavesThePadAndTheHistory() {
        DUE.part("promise 27: everything except the pad, the history and the slots");
        Rolls x = new Rolls();
        Made.named(x);
        x.newRoll();
        x.save(0);
        x.wipe();
        Due.put(x, "ab");
        x.newRoll();
        x.newRoll();
        x.save(1);
        due("restore(0)", x.restore(0), 0);
        due("the pad stays", x.count(8), 2);
        due("the history goes on", x.count(9), 4);
        due("the other slot stays", x.restore(1), 0);
        due("rolls", x.printer(4), 4);
        for (int rolls : new int[] {2, 4, 3, 2, 1}) {
            x.undo();
            due("rolls", x.printer(4), rolls);
        }
    }

    private static void restoreSlots() {
        DUE.part("promise 28: BAD_VALUE if there is no such slot");
        Rolls x = new Rolls();
        for (int slot : new int[] {-1, 2, LEAST, MOST}) {
            due("nothing is saved", x.restore(slot), BAD_VALUE);
        }
        x.save(0);
        x.save(1);
        for (int slot : new int[] {-1, 2, LEAST, MOST}) {
            due("both are saved", x.restore(slot), BAD_VALUE);
        }
    }

    private static void restoreNothing() {
        DUE.part("promise 28: NOT_POSSIBLE if nothing was saved in it");
        for (int slot = 0; slot <= 1; slot++) {
            Rolls x = new Rolls();
            due("restore", x.restore(slot), NOT_POSSIBLE);
            x.save(1 - slot);
            due("the other one is saved", x.restore(slot), NOT_POSSIBLE);
            due("the other one", x.restore(1 - slot), 0);
            x.save(slot);
            due("now", x.restore(slot), 0);
        }
    }

    private static void restoreKeeps() {
        DUE.part("promise 28: what was saved last in a slot, which keeps it");
        Rolls x = busy();
        x.save(1);
        List<String> saved = Seen.state(x);
        for (int i = 0; i < 3; i++) {
            x.pass(9);
            x.newRoll();
            x.strike(0, i);
            x.set(ReceiptRolls.WIDTH, 16 + i);
            due("restore(1)", x.restore(1), 4);
            dueSame("restore(1)", saved, Seen.state(x));
        }
    }

    private static void restoreBringsBack() {
        DUE.part("promise 28: restores: nothing, and as much as there may be");
        Rolls x = new Rolls();
        List<String> fresh = Seen.state(x);
        x.save(0);
        Made.full(x);
        x.pass(4);
        List<String> full = Seen.state(x);
        x.save(1);
        due("restore(0)", x.restore(0), 0);
        dueSame("as it was made", fresh, Seen.state(x));
        due("restore(1)", x.restore(1), 10);
        dueSame("full", full, Seen.state(x));
        x.pass(99);
        due("it goes on", x.count(3), 10);
        due("restore(0)", x.restore(0), 0);
        dueSame("as it was made", fresh, Seen.state(x));
        due("the first number again", Made.closeOne(x, 0, 0), 1);
    }

    /** Closes and prints until nothing is known any more of what was there, and tells at each step what is seen. */
    private static List<String> goingOn(Rolls x) {
        List<String> seen = new ArrayList<>();
        x.set(ReceiptRolls.SPEED, 3);
        for (int i = 0; i < 12; i++) {
            x.newRoll();
            x.pass(1);
            seen.addAll(Seen.state(x));
            Due.ring(x, i % 3, "a", 1, 100, 0);
            x.close(i % 3, i % 4);
        }
        return seen;
    }

    /** All places of the ledger are taken by receipts of another till, width, length and time. */
    private static void takeAllPlaces(Rolls x) {
        x.set(ReceiptRolls.WIDTH, 40);
        x.set(ReceiptRolls.ROLL, 200);
        x.set(ReceiptRolls.SPEED, 9);
        x.wipe();
        for (int i = 0; i < 2; i++) {
            x.newRoll();
            x.pass(99);
            while (x.count(1) - x.count(3) < 10) {
                Due.ring(x, 1, "other", 1, 1000 + i, 1);
                x.close(1, 0);
            }
        }
        x.pass(2);
    }

    private static void restoreOverOthers() {
        DUE.part("promise 28: as it was, whatever stood there since");
        Rolls x = busy();
        x.save(1);
        takeAllPlaces(x);
        due("the old ones are forgotten", x.between(1, 4, 1), 0);
        due("restore(1)", x.restore(1), 4);
        x.wipe();
        Rolls same = busy();
        same.wipe();
        dueSame("it goes on", goingOn(same), goingOn(x));
    }

    private static void undoOverOthers() {
        DUE.part("promise 26: as it was, whatever stood there since");
        Rolls x = busy();
        x.save(1);
        takeAllPlaces(x);
        x.save(0);
        x.restore(1);
        due("others again", x.restore(0), x.count(1));
        due("the old ones are forgotten", x.between(1, 4, 1), 0);
        due("undo", x.undo(), 5);
        x.wipe();
        Rolls same = busy();
        same.wipe();
        dueSame("it goes on", goingOn(same), goingOn(x));
    }
}
