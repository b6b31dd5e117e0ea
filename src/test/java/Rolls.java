import java.util.ArrayList;
import java.util.List;
import java.util.function.ToIntFunction;

/**
 * An object of ReceiptRolls that a test may call as often as it needs to. The document promises nothing behind the 512th
 * call: when an object has been used for so many, a new one is brought to the same state by the calls that did something.
 */
final class Rolls {
    static final int MOST_CALLS = 512;

    /** A call that did something, and what it answered. */
    private record Done(ToIntFunction<ReceiptRolls> call, int answer) {
    }

    private final List<Done> done = new ArrayList<>();
    private ReceiptRolls rolls = new ReceiptRolls();
    private int used = 0;

    /** For how many calls the object that is now behind this one has been used. */
    int used() {
        return used;
    }

    private int ask(ToIntFunction<ReceiptRolls> call) {
        if (used == MOST_CALLS) {
            replace();
        }
        used++;
        return call.applyAsInt(rolls);
    }

    private int change(ToIntFunction<ReceiptRolls> call) {
        int answer = ask(call);
        if (answer >= 0) {
            done.add(new Done(call, answer));
        }
        return answer;
    }

    private void replace() {
        if (done.size() >= MOST_CALLS) {
            throw new IllegalStateException("a test needs more calls than an object is used for");
        }
        rolls = new ReceiptRolls();
        used = done.size();
        for (Done d : done) {
            if (d.call().applyAsInt(rolls) != d.answer()) {
                throw new IllegalStateException("the same calls were answered in another way");
            }
        }
    }

    int set(int setting, int value) {
        return change(x -> x.set(setting, value));
    }

    int ring(int till, int many, int price, int tax) {
        return change(x -> x.ring(till, many, price, tax));
    }

    int strike(int till, int item) {
        return change(x -> x.strike(till, item));
    }

    int close(int till, int priority) {
        return change(x -> x.close(till, priority));
    }

    int hurry(int receipt, int priority) {
        return change(x -> x.hurry(receipt, priority));
    }

    int newRoll() {
        return change(x -> x.newRoll());
    }

    int tear(int lines) {
        return change(x -> x.tear(lines));
    }

    int pass(int ticks) {
        return change(x -> x.pass(ticks));
    }

    int item(int till, int item, int what) {
        return ask(x -> x.item(till, item, what));
    }

    int ofTill(int till, int what) {
        return ask(x -> x.ofTill(till, what));
    }

    int ofReceipt(int receipt, int what) {
        return ask(x -> x.ofReceipt(receipt, what));
    }

    int sign(int receipt, int line, int column) {
        return ask(x -> x.sign(receipt, line, column));
    }

    int waiting(int rank) {
        return ask(x -> x.waiting(rank));
    }

    int printer(int what) {
        return ask(x -> x.printer(what));
    }

    int count(int what) {
        return ask(x -> x.count(what));
    }

    int between(int from, int to, int what) {
        return ask(x -> x.between(from, to, what));
    }

    int doneIn(int receipt) {
        return ask(x -> x.doneIn(receipt));
    }

    int linesLeft() {
        return ask(x -> x.linesLeft());
    }

    int outIn() {
        return ask(x -> x.outIn());
    }

    int bestWidth(int till, int what) {
        return ask(x -> x.bestWidth(till, what));
    }

    int ifStruck(int till, int item) {
        return ask(x -> x.ifStruck(till, item));
    }

    int put(long characters) {
        return change(x -> x.put(characters));
    }

    int wipe() {
        return change(x -> x.wipe());
    }

    int fault() {
        return ask(x -> x.fault());
    }

    int undo() {
        return change(x -> x.undo());
    }

    int save(int slot) {
        return change(x -> x.save(slot));
    }

    int restore(int slot) {
        return change(x -> x.restore(slot));
    }
}
