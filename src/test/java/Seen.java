import java.util.ArrayList;
import java.util.List;
import java.util.function.Consumer;

/** Everything that can be seen of an object: its answers to all questions, each with its call. */
final class Seen {
    private final Rolls x;
    private final List<String> answers = new ArrayList<>();

    private Seen(Rolls x) {
        this.x = x;
    }

    /** What undo and restore bring back: everything except the pad, the history and the slots. */
    static List<String> state(Rolls x) {
        Seen seen = new Seen(x);
        seen.numbers();
        seen.tills();
        seen.receipts();
        return seen.answers;
    }

    /** What an object is that was made like this: its state and its pad, and what stands in its history and its slots. */
    static List<String> whole(Consumer<Rolls> made) {
        List<String> all = with(made, "", x -> { });
        for (int slot = 0; slot < 2; slot++) {
            int from = slot;
            all.addAll(with(made, "with slot " + slot + ": ", x -> x.restore(from)));
        }
        all.addAll(with(made, "with an item of the pad: ", x -> x.ring(2, 1, 1, 0)));
        for (int undone = 1; undone <= 6; undone++) {
            int times = undone;
            all.addAll(with(made, times + " changes ago: ", x -> {
                for (int i = 0; i < times; i++) {
                    x.undo();
                }
            }));
        }
        return all;
    }

    private static List<String> with(Consumer<Rolls> made, String told, Consumer<Rolls> more) {
        Rolls x = new Rolls();
        made.accept(x);
        more.accept(x);
        List<String> all = new ArrayList<>();
        for (String answer : state(x)) {
            all.add(told + answer);
        }
        all.add(told + "length of the pad = " + x.count(8));
        all.add(told + "fault of the pad = " + x.fault());
        all.add(told + "changes that can be undone = " + x.count(9));
        return all;
    }

    /** The first answer that is not the same; an empty text if all are. */
    static String difference(List<String> before, List<String> after) {
        for (int i = 0; i < before.size() && i < after.size(); i++) {
            if (!before.get(i).equals(after.get(i))) {
                return before.get(i) + ", then " + after.get(i);
            }
        }
        return before.size() == after.size() ? "" : before.size() + " answers, then " + after.size();
    }

    private void add(String call, Object answer) {
        answers.add(call + " = " + answer);
    }

    private void numbers() {
        for (int what = 0; what <= 7; what++) {
            add("count " + what, x.count(what));
        }
        for (int what = 0; what <= 5; what++) {
            add("printer " + what, x.printer(what));
        }
        for (int rank = 0; rank == 0 || x.waiting(rank - 1) >= 0; rank++) {
            add("waiting " + rank, x.waiting(rank));
        }
        for (int what = 0; what <= 2; what++) {
            add("between " + what, x.between(Integer.MIN_VALUE, Integer.MAX_VALUE, what));
        }
        add("linesLeft", x.linesLeft());
        add("outIn", x.outIn());
    }

    private void tills() {
        for (int till = 0; till < 3; till++) {
            for (int what = 0; what <= 5; what++) {
                add("ofTill " + till + " " + what, x.ofTill(till, what));
            }
            add("bestWidth " + till, x.bestWidth(till, 0));
            for (int item = 0; item < x.ofTill(till, 0); item++) {
                for (int what = 0; what <= 6; what++) {
                    add("item " + till + " " + item + " " + what, x.item(till, item, what));
                }
                add("ifStruck " + till + " " + item, x.ifStruck(till, item));
            }
            lines(-till);
        }
    }

    private void receipts() {
        for (int receipt = 1; receipt <= x.count(1) + 1; receipt++) {
            for (int what = 0; what <= 9; what++) {
                add("ofReceipt " + receipt + " " + what, x.ofReceipt(receipt, what));
            }
            add("doneIn " + receipt, x.doneIn(receipt));
            lines(receipt);
        }
    }

    private void lines(int receipt) {
        String line = "";
        for (int number = 0; !line.equals("none"); number++) {
            line = Due.line(x, receipt, number);
            add("line " + number + " of " + receipt, line);
        }
    }
}
