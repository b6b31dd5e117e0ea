import java.util.ArrayDeque;
import java.util.ArrayList;
import java.util.Deque;
import java.util.List;

/**
 * The document a second time, in the plainest form and with the Java library: lines are texts, what-ifs are tried out on
 * copies, and each state is a copy of its own. The class is compared with it.
 */
final class PlainRolls {
    static final int NO_SUCH = -1, BAD_VALUE = -2, BAD_TEXT = -3, TOO_MANY = -4, NOT_POSSIBLE = -5, NONE = -6;
    private static final int[][] RANGES = {{16, 40}, {5, 200}, {1, 9}};
    private static final int[] RATES = {0, 7, 19};

    /** An item; each struck one is a copy, so that states can share it. */
    private record Item(String name, int many, int price, int tax, boolean struck) {
        int sum() {
            return many * price;
        }
    }

    /** What happened to an item. */
    private record Event(int item, boolean void_) {
    }

    /** A line, and which item's ringing it tells, -1 for all others. */
    private record Line(String text, int rung) {
    }

    private static final class Receipt {
        int number, till, priority, how, width, printed, tick = NONE;
        List<Item> items = new ArrayList<>();
        List<Event> events = new ArrayList<>();

        Receipt copy() {
            Receipt r = new Receipt();
            r.number = number;
            r.till = till;
            r.priority = priority;
            r.how = how;
            r.width = width;
            r.printed = printed;
            r.tick = tick;
            r.items = new ArrayList<>(items);
            r.events = new ArrayList<>(events);
            return r;
        }

        int total() {
            return items.stream().filter(i -> !i.struck()).mapToInt(Item::sum).sum();
        }

        boolean has(int tax) {
            return items.stream().anyMatch(i -> !i.struck() && i.tax() == tax);
        }

        int tax(int tax) {
            long s = items.stream().filter(i -> !i.struck() && i.tax() == tax).mapToInt(Item::sum).sum();
            long r = RATES[tax];
            return (int) ((2 * s * r + 100 + r) / (2 * (100 + r)));
        }

        int struck() {
            return (int) items.stream().filter(Item::struck).count();
        }
    }

    private static final class State {
        int[] settings = {24, 40, 2};
        Receipt[] open = {new Receipt(), new Receipt(), new Receipt()};
        List<Receipt> notDone = new ArrayList<>();
        List<Receipt> done = new ArrayList<>();
        Receipt printing;
        int left = 40, printed, spoilt, rolls = 1, thrown, ticks, closed, doneSoFar, struck;

        State copy() {
            State s = new State();
            s.settings = settings.clone();
            for (int i = 0; i < 3; i++) {
                s.open[i] = open[i].copy();
            }
            for (Receipt r : notDone) {
                Receipt c = r.copy();
                s.notDone.add(c);
                if (r == printing) {
                    s.printing = c;
                }
            }
            for (Receipt r : done) {
                s.done.add(r.copy());
            }
            s.left = left;
            s.printed = printed;
            s.spoilt = spoilt;
            s.rolls = rolls;
            s.thrown = thrown;
            s.ticks = ticks;
            s.closed = closed;
            s.doneSoFar = doneSoFar;
            s.struck = struck;
            return s;
        }

        Receipt known(int number) {
            for (Receipt r : all()) {
                if (r.number == number) {
                    return r;
                }
            }
            return null;
        }

        List<Receipt> all() {
            List<Receipt> all = new ArrayList<>(notDone);
            all.addAll(done);
            return all;
        }

        List<Receipt> queue() {
            List<Receipt> queue = new ArrayList<>();
            for (Receipt r : notDone) {
                if (r != printing) {
                    queue.add(r);
                }
            }
            queue.sort((a, b) -> a.priority != b.priority ? b.priority - a.priority : a.number - b.number);
            return queue;
        }

        int tick() {
            int lines = 0;
            for (int i = 0; i < settings[2]; i++) {
                if (printing == null && !queue().isEmpty()) {
                    printing = queue().get(0);
                    printing.how = 1;
                }
                if (printing == null || left == 0) {
                    break;
                }
                left--;
                printed++;
                lines++;
                printing.printed++;
                if (printing.printed == lines(printing, printing.number, printing.width).size()) {
                    printing.how = 2;
                    printing.tick = ticks;
                    notDone.remove(printing);
                    done.add(printing);
                    doneSoFar++;
                    printing = null;
                    if (done.size() > 8) {
                        done.remove(0);
                    }
                }
            }
            ticks++;
            return lines;
        }

        int toPrint() {
            int lines = 0;
            for (Receipt r : notDone) {
                lines += lines(r, r.number, r.width).size() - r.printed;
            }
            return lines;
        }
    }

    private State now = new State();
    private final Deque<State> history = new ArrayDeque<>();
    private final State[] slots = new State[2];
    private String pad = "";

    // ---- lines

    private static String money(int cents) {
        int of = Math.abs(cents);
        return (cents < 0 ? "-" : "") + of / 100 + "." + String.format("%02d", of % 100);
    }

    private static String told(String left, String right, int width) {
        return left + " ".repeat(width - left.length() - right.length()) + right;
    }

    private static List<String> wrap(List<String> words, int room) {
        List<String> lines = new ArrayList<>();
        String line = "";
        for (String word : words) {
            if (!line.isEmpty() && line.length() + 1 + word.length() <= room) {
                line = line + " " + word;
                continue;
            }
            if (!line.isEmpty()) {
                lines.add(line);
            }
            line = word;
            while (line.length() > room) {
                lines.add(line.substring(0, room));
                line = line.substring(room);
            }
        }
        lines.add(line);
        return lines;
    }

    private static List<String> itemLines(Item item, int width) {
        List<String> words = new ArrayList<>();
        if (item.many() > 1) {
            words.add(item.many() + "x");
        }
        words.addAll(List.of(item.name().split("_")));
        List<String> lines = wrap(words, width - 8);
        for (int i = 0; i < lines.size(); i++) {
            lines.set(i, told(lines.get(i), i == lines.size() - 1 ? money(item.sum()) : "", width));
        }
        return lines;
    }

    private static List<Line> lines(Receipt r, int number, int width) {
        List<Line> lines = new ArrayList<>();
        lines.add(new Line(told("#" + number, "", width), -1));
        for (Event e : r.events) {
            Item item = r.items.get(e.item());
            if (e.void_()) {
                lines.add(new Line(told("void " + e.item(), money(-item.sum()), width), -1));
            } else {
                itemLines(item, width).forEach(text -> lines.add(new Line(text, e.item())));
            }
        }
        lines.add(new Line(told("sum", money(r.total()), width), -1));
        for (int tax = 1; tax < 3; tax++) {
            if (r.has(tax)) {
                lines.add(new Line(told("tax " + RATES[tax], money(r.tax(tax)), width), -1));
            }
        }
        return lines;
    }

    private List<Line> openLines(int till, int width) {
        return lines(now.open[till], now.closed + 1, width);
    }

    // ---- changes

    private static boolean isTill(int till) {
        return till >= 0 && till < 3;
    }

    private boolean isItem(int till, int item) {
        return isTill(till) && item >= 0 && item < now.open[till].items.size();
    }

    private void change() {
        history.addLast(now.copy());
        if (history.size() > 6) {
            history.removeFirst();
        }
    }

    int set(int setting, int value) {
        if (setting < 0 || setting > 2 || value < RANGES[setting][0] || value > RANGES[setting][1]) {
            return BAD_VALUE;
        }
        change();
        int previous = now.settings[setting];
        now.settings[setting] = value;
        return previous;
    }

    int ring(int till, int many, int price, int tax) {
        if (!isTill(till)) {
            return NO_SUCH;
        }
        if (fault() != NONE) {
            return BAD_TEXT;
        }
        if (many < 1 || many > 99 || price < 1 || price > 9999 || tax < 0 || tax > 2) {
            return BAD_VALUE;
        }
        Receipt r = now.open[till];
        if (r.items.size() == 12) {
            return TOO_MANY;
        }
        change();
        r.events.add(new Event(r.items.size(), false));
        r.items.add(new Item(pad, many, price, tax, false));
        pad = "";
        return r.items.size() - 1;
    }

    int strike(int till, int item) {
        if (!isItem(till, item)) {
            return NO_SUCH;
        }
        Receipt r = now.open[till];
        Item i = r.items.get(item);
        if (i.struck()) {
            return NOT_POSSIBLE;
        }
        change();
        r.items.set(item, new Item(i.name(), i.many(), i.price(), i.tax(), true));
        r.events.add(new Event(item, true));
        now.struck++;
        return i.sum();
    }

    int close(int till, int priority) {
        if (!isTill(till)) {
            return NO_SUCH;
        }
        if (priority < 0 || priority > 3) {
            return BAD_VALUE;
        }
        Receipt r = now.open[till];
        if (r.items.isEmpty()) {
            return NOT_POSSIBLE;
        }
        if (now.notDone.size() == 10) {
            return TOO_MANY;
        }
        change();
        now.closed++;
        r.number = now.closed;
        r.till = till;
        r.priority = priority;
        r.width = now.settings[0];
        now.notDone.add(r);
        now.open[till] = new Receipt();
        return r.number;
    }

    int hurry(int receipt, int priority) {
        Receipt r = now.known(receipt);
        if (r == null) {
            return NO_SUCH;
        }
        if (priority < 0 || priority > 3) {
            return BAD_VALUE;
        }
        if (r.how != 0) {
            return NOT_POSSIBLE;
        }
        change();
        int previous = r.priority;
        r.priority = priority;
        return previous;
    }

    int newRoll() {
        change();
        int left = now.left;
        now.thrown += left;
        now.rolls++;
        now.left = now.settings[1];
        return left;
    }

    int tear(int lines) {
        if (lines < 1 || lines > 99) {
            return BAD_VALUE;
        }
        Receipt r = now.printing;
        if (r == null || r.printed < lines) {
            return NOT_POSSIBLE;
        }
        change();
        List<Line> all = lines(r, r.number, r.width);
        int first = r.printed - lines;
        int rung = all.get(first).rung();
        while (rung >= 0 && all.get(first - 1).rung() == rung) {
            first--;
        }
        int anew = r.printed - first;
        r.printed = first;
        now.spoilt += anew;
        return anew;
    }

    int pass(int ticks) {
        if (ticks < 1 || ticks > 99) {
            return BAD_VALUE;
        }
        if (now.ticks + ticks > 9999) {
            return NOT_POSSIBLE;
        }
        change();
        int lines = 0;
        for (int i = 0; i < ticks; i++) {
            lines += now.tick();
        }
        return lines;
    }

    // ---- what there is

    private static int pick(int what, int... answers) {
        return what < 0 || what >= answers.length ? BAD_VALUE : answers[what];
    }

    int item(int till, int item, int what) {
        if (!isItem(till, item)) {
            return NO_SUCH;
        }
        Item i = now.open[till].items.get(item);
        return pick(what, i.many(), i.price(), i.tax(), i.sum(), i.struck() ? 1 : 0,
            itemLines(i, now.settings[0]).size(), i.name().length());
    }

    int ofTill(int till, int what) {
        if (!isTill(till)) {
            return NO_SUCH;
        }
        Receipt r = now.open[till];
        return pick(what, r.items.size(), r.struck(), r.total(), openLines(till, now.settings[0]).size(), r.tax(1), r.tax(2));
    }

    int ofReceipt(int receipt, int what) {
        Receipt r = now.known(receipt);
        if (r == null) {
            return NO_SUCH;
        }
        return pick(what, r.how, r.till, r.priority, r.items.size(), r.struck(), r.total(),
            lines(r, r.number, r.width).size(), r.printed, r.width, r.tick);
    }

    int sign(int receipt, int line, int column) {
        List<Line> lines;
        if (receipt == 0 || receipt == -1 || receipt == -2) {
            lines = openLines(-receipt, now.settings[0]);
        } else if (now.known(receipt) != null) {
            lines = lines(now.known(receipt), receipt, now.known(receipt).width);
        } else {
            return NO_SUCH;
        }
        if (line < 0 || line >= lines.size()) {
            return NO_SUCH;
        }
        String text = lines.get(line).text();
        return column < 0 || column >= text.length() ? BAD_VALUE : text.charAt(column);
    }

    int waiting(int rank) {
        List<Receipt> queue = now.queue();
        return rank < 0 || rank >= queue.size() ? NO_SUCH : queue.get(rank).number;
    }

    int printer(int what) {
        return pick(what, now.printing == null ? NONE : now.printing.number, now.left, now.printed, now.spoilt,
            now.rolls, now.thrown);
    }

    int count(int what) {
        return pick(what, now.ticks, now.closed, now.queue().size(), now.doneSoFar, now.struck, now.settings[0],
            now.settings[1], now.settings[2], pad.length(), history.size());
    }

    int between(int from, int to, int what) {
        if (to < from) {
            return BAD_VALUE;
        }
        int[] totals = now.all().stream().filter(r -> r.number >= from && r.number <= to).mapToInt(Receipt::total).toArray();
        int sum = 0;
        int most = NONE;
        for (int total : totals) {
            sum += total;
            most = Math.max(most, total);
        }
        return pick(what, sum, totals.length, most);
    }

    // ---- what if: tried out on a copy

    int doneIn(int receipt) {
        if (now.known(receipt) == null) {
            return NO_SUCH;
        }
        State trial = now.copy();
        Receipt r = trial.known(receipt);
        int ticks = 0;
        while (r.how != 2) {
            if (trial.tick() == 0) {
                return NONE;
            }
            ticks++;
        }
        return ticks;
    }

    int linesLeft() {
        return now.toPrint();
    }

    int outIn() {
        State trial = now.copy();
        int ticks = 0;
        while (trial.left > 0) {
            if (trial.tick() == 0) {
                return NONE;
            }
            ticks++;
        }
        return ticks;
    }

    int bestWidth(int till, int what) {
        if (!isTill(till)) {
            return NO_SUCH;
        }
        int best = 16;
        for (int width = 17; width <= 40; width++) {
            if (openLines(till, width).size() < openLines(till, best).size()) {
                best = width;
            }
        }
        return pick(what, best, openLines(till, best).size());
    }

    int ifStruck(int till, int item) {
        if (!isItem(till, item)) {
            return NO_SUCH;
        }
        Receipt r = now.open[till].copy();
        Item i = r.items.get(item);
        r.items.set(item, new Item(i.name(), i.many(), i.price(), i.tax(), !i.struck()));
        return r.total();
    }

    // ---- texts

    int put(long characters) {
        String text = "";
        boolean ended = false;
        for (int i = 0; i < 8; i++) {
            int code = (int) (characters >>> 8 * i) & 255;
            ended |= code == 0;
            if (ended ? code != 0 : code < 33 || code > 126) {
                return BAD_VALUE;
            }
            text = ended ? text : (char) code + text;
        }
        if (text.isEmpty()) {
            return BAD_VALUE;
        }
        if ((pad + text).length() > 80) {
            return TOO_MANY;
        }
        pad += text;
        return pad.length();
    }

    int wipe() {
        int length = pad.length();
        pad = "";
        return length;
    }

    int fault() {
        // The longest beginning of the pad that some name begins with.
        int good = 0;
        while (good < pad.length() && beginsName(pad.substring(0, good + 1))) {
            good++;
        }
        return good == pad.length() && isName(pad) ? NONE : good;
    }

    private static boolean isName(String text) {
        return text.length() <= 30 && text.matches("[a-z]+(_[a-z]+)*");
    }

    private static boolean beginsName(String text) {
        return isName(text) || isName(text + "a");
    }

    // ---- undo, saving

    int undo() {
        if (history.isEmpty()) {
            return NOT_POSSIBLE;
        }
        now = history.removeLast();
        return history.size();
    }

    int save(int slot) {
        if (slot != 0 && slot != 1) {
            return BAD_VALUE;
        }
        slots[slot] = now.copy();
        return now.closed;
    }

    int restore(int slot) {
        if (slot != 0 && slot != 1) {
            return BAD_VALUE;
        }
        if (slots[slot] == null) {
            return NOT_POSSIBLE;
        }
        change();
        now = slots[slot].copy();
        return now.closed;
    }
}
