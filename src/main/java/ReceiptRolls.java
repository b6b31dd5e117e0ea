/** Tills whose receipts are printed on rolls. The document tells, promise by promise, what each call answers. */
public final class ReceiptRolls {
    public static final int NO_SUCH = -1, BAD_VALUE = -2, BAD_TEXT = -3, TOO_MANY = -4, NOT_POSSIBLE = -5, NONE = -6;
    public static final int WIDTH = 0, ROLL = 1, SPEED = 2;

    private static final int[] LEAST_SETTINGS = {16, 5, 1};
    private static final int[] MOST_SETTINGS = {40, 200, 9};
    private static final int LEAST_WIDTH = 16, MOST_WIDTH = 40, FIRST_WIDTH = 24, FIRST_ROLL = 40, FIRST_SPEED = 2;

    private static final int[] RATES = {0, 7, 19};
    private static final int TILLS = 3;
    private static final int MOST_ITEMS = 12, MOST_MANY = 99, MOST_PRICE = 9999, MOST_NAME = 30;
    private static final int MOST_PRIORITY = 3, MOST_NOT_DONE = 10, MOST_DONE_KNOWN = 8;
    private static final int MOST_TORN = 99, MOST_PASSED = 99, MOST_TICKS = 9999;
    private static final int MOST_PAD = 80, LEAST_CODE = 33, MOST_CODE = 126;
    private static final int MOST_HISTORY = 6, SLOTS = 2;

    /** The places at the right of a line into which the words of an item never go. */
    private static final int MONEY_PLACES = 8;
    /** The greatest power of ten that an int holds. */
    private static final int TOP_POWER = 1000000000;

    private static final int WAITS = 0, PRINTED = 1, DONE = 2;

    /** Stands for the wanted line where lines are only counted. */
    private static final int NO_LINE = -1;

    private final State now;
    private final History history;
    /** Null where nothing was saved. */
    private final State[] slots;
    private final StringBuilder pad;
    private final Sheet sheet;

    public ReceiptRolls() {
        now = new State();
        history = new History();
        slots = new State[SLOTS];
        pad = new StringBuilder();
        sheet = new Sheet();
    }

    // ---- changes

    public int set(int setting, int value) {
        if (setting < 0 || setting >= LEAST_SETTINGS.length || setting >= MOST_SETTINGS.length) {
            return BAD_VALUE;
        }
        if (value < LEAST_SETTINGS[setting] || value > MOST_SETTINGS[setting]) {
            return BAD_VALUE;
        }
        history.remember(now);
        return now.changeSetting(setting, value);
    }

    public int ring(int till, int many, int price, int tax) {
        Receipt receipt = now.openAt(till);
        if (receipt == null) {
            return NO_SUCH;
        }
        if (faultOfPad() != NONE) {
            return BAD_TEXT;
        }
        if (many < 1 || many > MOST_MANY || price < 1 || price > MOST_PRICE || tax < 0 || tax >= RATES.length) {
            return BAD_VALUE;
        }
        if (receipt.items >= MOST_ITEMS) {
            return TOO_MANY;
        }
        history.remember(now);
        int number = receipt.items;
        receipt.addItem(new Item(pad.toString(), many, price, tax));
        pad.setLength(0);
        return number;
    }

    public int strike(int till, int item) {
        Receipt receipt = now.openAt(till);
        Item struck = receipt == null ? null : receipt.itemAt(item);
        if (receipt == null || struck == null) {
            return NO_SUCH;
        }
        if (receipt.isStruck(item)) {
            return NOT_POSSIBLE;
        }
        history.remember(now);
        receipt.strikeItem(item);
        now.itemsStruck++;
        return struck.sum();
    }

    public int close(int till, int priority) {
        Receipt receipt = now.openAt(till);
        if (receipt == null) {
            return NO_SUCH;
        }
        if (!isPriority(priority)) {
            return BAD_VALUE;
        }
        if (receipt.items == 0) {
            return NOT_POSSIBLE;
        }
        Receipt place = now.freePlace();
        if (place == null || now.closed - now.done >= MOST_NOT_DONE) {
            return TOO_MANY;
        }
        history.remember(now);
        layLines(receipt, NO_LINE);
        now.closed++;
        place.copyFrom(receipt);
        place.closeAs(now.closed, till, priority, sheet.width, sheet.line);
        receipt.clear();
        return now.closed;
    }

    public int hurry(int receipt, int priority) {
        Receipt known = now.known(receipt);
        if (known == null) {
            return NO_SUCH;
        }
        if (!isPriority(priority)) {
            return BAD_VALUE;
        }
        if (known.stage != WAITS) {
            return NOT_POSSIBLE;
        }
        history.remember(now);
        int previous = known.priority;
        known.priority = priority;
        return previous;
    }

    public int newRoll() {
        history.remember(now);
        int left = now.rollLeft;
        now.linesThrown += left;
        now.rollLeft = now.settingAt(ROLL);
        now.rolls++;
        return left;
    }

    public int tear(int lines) {
        if (lines < 1 || lines > MOST_TORN) {
            return BAD_VALUE;
        }
        Receipt receipt = now.known(now.printing);
        if (receipt == null || receipt.printed < lines) {
            return NOT_POSSIBLE;
        }
        history.remember(now);
        layLines(receipt, receipt.printed - lines);
        int anew = receipt.printed - sheet.firstAlike;
        receipt.printed = sheet.firstAlike;
        now.linesSpoilt += anew;
        return anew;
    }

    public int pass(int ticks) {
        if (ticks < 1 || ticks > MOST_PASSED) {
            return BAD_VALUE;
        }
        if (now.ticks + ticks > MOST_TICKS) {
            return NOT_POSSIBLE;
        }
        history.remember(now);
        int lines = 0;
        for (int i = 0; i < ticks; i++) {
            lines += now.tick();
        }
        return lines;
    }

    // ---- what there is

    public int item(int till, int item, int what) {
        Receipt receipt = now.openAt(till);
        Item found = receipt == null ? null : receipt.itemAt(item);
        if (receipt == null || found == null) {
            return NO_SUCH;
        }
        switch (what) {
            case 0: return found.many;
            case 1: return found.price;
            case 2: return found.tax;
            case 3: return found.sum();
            case 4: return receipt.isStruck(item) ? 1 : 0;
            case 5: return sheet.linesOfItem(found, now.settingAt(WIDTH));
            case 6: return found.name.length();
            default: return BAD_VALUE;
        }
    }

    public int ofTill(int till, int what) {
        Receipt receipt = now.openAt(till);
        if (receipt == null) {
            return NO_SUCH;
        }
        switch (what) {
            case 0: return receipt.items;
            case 1: return receipt.itemsStruck();
            case 2: return receipt.total();
            case 3: return layLines(receipt, NO_LINE);
            case 4: return receipt.taxOf(1);
            case 5: return receipt.taxOf(2);
            default: return BAD_VALUE;
        }
    }

    public int ofReceipt(int receipt, int what) {
        Receipt known = now.known(receipt);
        if (known == null) {
            return NO_SUCH;
        }
        switch (what) {
            case 0: return known.stage;
            case 1: return known.till;
            case 2: return known.priority;
            case 3: return known.items;
            case 4: return known.itemsStruck();
            case 5: return known.total();
            case 6: return known.lines;
            case 7: return known.printed;
            case 8: return known.width;
            case 9: return known.stage == DONE ? known.doneTick : NONE;
            default: return BAD_VALUE;
        }
    }

    public int sign(int receipt, int line, int column) {
        Receipt found = receipt > 0 ? now.known(receipt) : now.openAt(-receipt);
        if (found == null) {
            return NO_SUCH;
        }
        int lines = layLines(found, line);
        if (line < 0 || line >= lines) {
            return NO_SUCH;
        }
        if (column < 0 || column >= sheet.width) {
            return BAD_VALUE;
        }
        return sheet.signAt(column);
    }

    public int waiting(int rank) {
        Receipt receipt = now.waitingAt(rank);
        return receipt == null ? NO_SUCH : receipt.number;
    }

    public int printer(int what) {
        switch (what) {
            case 0: return now.printing == 0 ? NONE : now.printing;
            case 1: return now.rollLeft;
            case 2: return now.linesPrinted;
            case 3: return now.linesSpoilt;
            case 4: return now.rolls;
            case 5: return now.linesThrown;
            default: return BAD_VALUE;
        }
    }

    public int count(int what) {
        switch (what) {
            case 0: return now.ticks;
            case 1: return now.closed;
            case 2: return now.receiptsWaiting();
            case 3: return now.done;
            case 4: return now.itemsStruck;
            case 5: return now.settingAt(WIDTH);
            case 6: return now.settingAt(ROLL);
            case 7: return now.settingAt(SPEED);
            case 8: return pad.length();
            case 9: return history.kept;
            default: return BAD_VALUE;
        }
    }

    public int between(int from, int to, int what) {
        if (to < from || what < 0 || what > 2) {
            return BAD_VALUE;
        }
        int totals = 0;
        int many = 0;
        int greatest = NONE;
        for (int place = 0; place < now.places(); place++) {
            Receipt receipt = now.placeAt(place);
            if (receipt != null && receipt.number >= from && receipt.number <= to) {
                int total = receipt.total();
                totals += total;
                many++;
                greatest = Math.max(greatest, total);
            }
        }
        return what == 0 ? totals : what == 1 ? many : greatest;
    }

    // ---- what if; nothing changes

    public int doneIn(int receipt) {
        Receipt known = now.known(receipt);
        if (known == null) {
            return NO_SUCH;
        }
        if (known.stage == DONE) {
            return 0;
        }
        int lines = now.linesUntilDone(known);
        return lines > now.rollLeft ? NONE : now.ticksFor(lines);
    }

    public int linesLeft() {
        return now.linesToPrint();
    }

    public int outIn() {
        if (now.rollLeft == 0) {
            return 0;
        }
        return now.linesToPrint() < now.rollLeft ? NONE : now.ticksFor(now.rollLeft);
    }

    public int bestWidth(int till, int what) {
        Receipt receipt = now.openAt(till);
        if (receipt == null) {
            return NO_SUCH;
        }
        if (what != 0 && what != 1) {
            return BAD_VALUE;
        }
        int bestWidth = LEAST_WIDTH;
        int fewest = sheet.lay(receipt, now.closed + 1, LEAST_WIDTH, NO_LINE);
        for (int width = LEAST_WIDTH + 1; width <= MOST_WIDTH; width++) {
            int lines = sheet.lay(receipt, now.closed + 1, width, NO_LINE);
            if (lines < fewest) {
                fewest = lines;
                bestWidth = width;
            }
        }
        return what == 0 ? bestWidth : fewest;
    }

    public int ifStruck(int till, int item) {
        Receipt receipt = now.openAt(till);
        if (receipt == null || receipt.itemAt(item) == null) {
            return NO_SUCH;
        }
        return receipt.totalWithout(receipt.struck ^ 1 << item);
    }

    // ---- texts

    public int put(long characters) {
        int many = lengthOf(characters);
        if (many < 1) {
            return BAD_VALUE;
        }
        if (pad.length() + many > MOST_PAD) {
            return TOO_MANY;
        }
        for (int i = many - 1; i >= 0; i--) {
            pad.append((char) codeAt(characters, i));
        }
        return pad.length();
    }

    public int wipe() {
        int length = pad.length();
        pad.setLength(0);
        return length;
    }

    public int fault() {
        return faultOfPad();
    }

    // ---- undo, saving

    public int undo() {
        if (history.kept == 0) {
            return NOT_POSSIBLE;
        }
        history.giveBack(now);
        return history.kept;
    }

    public int save(int slot) {
        if (slot < 0 || slot >= slots.length) {
            return BAD_VALUE;
        }
        if (slots[slot] == null) {
            slots[slot] = new State();
        }
        slots[slot].copyFrom(now);
        return now.closed;
    }

    public int restore(int slot) {
        if (slot < 0 || slot >= slots.length) {
            return BAD_VALUE;
        }
        if (slots[slot] == null) {
            return NOT_POSSIBLE;
        }
        history.remember(now);
        now.copyFrom(slots[slot]);
        return now.closed;
    }

    // ---- inside

    private static boolean isPriority(int priority) {
        return priority >= 0 && priority <= MOST_PRIORITY;
    }

    /** Lays a receipt of the ledger, or an open one as if it was closed now, and tells how many lines it has. */
    private int layLines(Receipt receipt, int wanted) {
        if (receipt.number > 0) {
            return sheet.lay(receipt, receipt.number, receipt.width, wanted);
        }
        return sheet.lay(receipt, now.closed + 1, now.settingAt(WIDTH), wanted);
    }

    private static int codeAt(long characters, int index) {
        return (int) (characters >>> 8 * index & 255);
    }

    /** How many characters the number holds; 0 if it holds none, or is not one that holds characters. */
    private static int lengthOf(long characters) {
        int many = 0;
        while (many < 8 && codeAt(characters, many) != 0) {
            int code = codeAt(characters, many);
            if (code < LEAST_CODE || code > MOST_CODE) {
                return 0;
            }
            many++;
        }
        // A shift by 64 places would shift by none: with 8 characters nothing is above them.
        boolean moreAbove = many < 8 && characters >>> 8 * many != 0;
        return moreAbove ? 0 : many;
    }

    private int faultOfPad() {
        boolean letterDue = true;
        for (int i = 0; i < pad.length(); i++) {
            char sign = pad.charAt(i);
            boolean letter = sign >= 'a' && sign <= 'z';
            boolean gap = sign == '_' && !letterDue && i < MOST_NAME - 1;
            if (i >= MOST_NAME || !letter && !gap) {
                return i;
            }
            letterDue = gap;
        }
        return letterDue ? pad.length() : NONE;
    }

    /** An item as it was rung; whether it is struck is a thing of its receipt, so states can share it. */
    private static final class Item {
        final String name;
        final int many;
        final int price;
        final int tax;

        Item(String name, int many, int price, int tax) {
            this.name = name;
            this.many = many;
            this.price = price;
            this.tax = tax;
        }

        int sum() {
            return many * price;
        }
    }

    /** A receipt: an open one of a till, or one in a place of the ledger. */
    private static final class Receipt {
        /** 0 as long as it is open, and in a place of the ledger that is free. */
        int number;
        int till;
        int priority;
        int stage;
        int width;
        int lines;
        int printed;
        int doneTick;
        /** How many receipts were done ahead of it. */
        int doneRank;
        int items;
        int events;
        /** A bit for each item. */
        int struck;
        final Item[] rung = new Item[MOST_ITEMS];
        /** What happened: i when item i was rung, MOST_ITEMS + i when it was struck. */
        final int[] happened = new int[2 * MOST_ITEMS];

        void copyFrom(Receipt other) {
            number = other.number;
            till = other.till;
            priority = other.priority;
            stage = other.stage;
            width = other.width;
            lines = other.lines;
            printed = other.printed;
            doneTick = other.doneTick;
            doneRank = other.doneRank;
            items = other.items;
            events = other.events;
            struck = other.struck;
            for (int i = 0; i < rung.length && i < other.rung.length; i++) {
                rung[i] = other.rung[i];
            }
            for (int i = 0; i < happened.length && i < other.happened.length; i++) {
                happened[i] = other.happened[i];
            }
        }

        void clear() {
            number = 0;
            items = 0;
            events = 0;
            struck = 0;
        }

        void closeAs(int newNumber, int ofTill, int newPriority, int laidWidth, int laidLines) {
            number = newNumber;
            till = ofTill;
            priority = newPriority;
            stage = WAITS;
            width = laidWidth;
            lines = laidLines;
            printed = 0;
        }

        /** Null if there is no such item. */
        Item itemAt(int index) {
            return index >= 0 && index < items && index < rung.length ? rung[index] : null;
        }

        boolean isStruck(int index) {
            return (struck >> index & 1) == 1;
        }

        int itemsStruck() {
            return Integer.bitCount(struck);
        }

        void addItem(Item item) {
            if (items >= 0 && items < rung.length) {
                rung[items] = item;
                addEvent(items);
                items++;
            }
        }

        void strikeItem(int index) {
            struck |= 1 << index;
            addEvent(MOST_ITEMS + index);
        }

        private void addEvent(int event) {
            if (events >= 0 && events < happened.length) {
                happened[events] = event;
                events++;
            }
        }

        int total() {
            return totalWithout(struck);
        }

        /** The sum of all items but those whose bits are set. */
        int totalWithout(int left) {
            int total = 0;
            for (int i = 0; i < items; i++) {
                Item item = itemAt(i);
                if (item != null && (left >> i & 1) == 0) {
                    total += item.sum();
                }
            }
            return total;
        }

        /** The sum of the items with a tax that are not struck; above 0 if there is one, as each costs something. */
        int sumTaxed(int tax) {
            int sum = 0;
            for (int i = 0; i < items; i++) {
                Item item = itemAt(i);
                if (item != null && item.tax == tax && !isStruck(i)) {
                    sum += item.sum();
                }
            }
            return sum;
        }

        int taxOf(int tax) {
            if (tax < 0 || tax >= RATES.length) {
                return 0;
            }
            int rate = RATES[tax];
            int twiceWhole = 2 * (100 + rate);
            return twiceWhole <= 0 ? 0 : (2 * sumTaxed(tax) * rate + 100 + rate) / twiceWhole;
        }

        int linesToPrint() {
            return stage == DONE ? 0 : lines - printed;
        }

        /** Whether the printer is done with it ahead of another one; neither of them is done yet. */
        boolean isAheadOf(Receipt other) {
            if (stage != other.stage) {
                return stage == PRINTED;
            }
            return priority != other.priority ? priority > other.priority : number < other.number;
        }
    }

    /** Lays the lines of receipts one by one, counts them, and keeps the signs of one of them: the wanted one. */
    private static final class Sheet {
        int width;
        /** The line that is being laid; behind the last one it tells how many there are. */
        int line;
        /** The first of the lines that tell the same as the wanted one. */
        int firstAlike;
        private int wanted;
        private int column;
        private final char[] signs = new char[MOST_WIDTH];

        int lay(Receipt receipt, int number, int newWidth, int newWanted) {
            begin(newWidth, newWanted);
            addText("#");
            addNumber(number);
            endLine();
            for (int i = 0; i < receipt.events && i < receipt.happened.length; i++) {
                int event = receipt.happened[i];
                Item item = receipt.itemAt(event % MOST_ITEMS);
                if (item != null && event < MOST_ITEMS) {
                    layItem(item);
                } else if (item != null) {
                    layTold("void ", event % MOST_ITEMS, -item.sum());
                }
            }
            addText("sum");
            addMoney(receipt.total());
            endLine();
            for (int tax = 1; tax < RATES.length; tax++) {
                if (receipt.sumTaxed(tax) > 0) {
                    layTold("tax ", RATES[tax], receipt.taxOf(tax));
                }
            }
            return line;
        }

        int linesOfItem(Item item, int newWidth) {
            begin(newWidth, NO_LINE);
            layItem(item);
            return line;
        }

        int signAt(int place) {
            return place >= 0 && place < signs.length ? signs[place] : ' ';
        }

        private void begin(int newWidth, int newWanted) {
            width = newWidth;
            wanted = newWanted;
            firstAlike = newWanted;
            line = 0;
            column = 0;
            for (int i = 0; i < signs.length; i++) {
                signs[i] = ' ';
            }
        }

        private void layItem(Item item) {
            int first = line;
            if (item.many > 1) {
                addNumber(item.many);
                addSign('x');
            }
            int from = 0;
            for (int i = 0; i <= item.name.length(); i++) {
                if (i == item.name.length() || item.name.charAt(i) == '_') {
                    layWord(item.name, from, i);
                    from = i + 1;
                }
            }
            if (first <= wanted && wanted <= line) {
                firstAlike = first;
            }
            addMoney(item.sum());
            endLine();
        }

        /** A word that is longer than a line fits nowhere, so it begins a new line, and is broken wherever one ends. */
        private void layWord(String name, int from, int to) {
            int room = width - MONEY_PLACES;
            boolean fits = column + 1 + to - from <= room;
            if (column > 0 && fits) {
                addSign(' ');
            } else if (column > 0) {
                endLine();
            }
            for (int i = Math.max(from, 0); i < to && i < name.length(); i++) {
                if (column >= room) {
                    endLine();
                }
                addSign(name.charAt(i));
            }
        }

        private void layTold(String what, int number, int cents) {
            addText(what);
            addNumber(number);
            addMoney(cents);
            endLine();
        }

        private void endLine() {
            line++;
            column = 0;
        }

        private void addSign(char sign) {
            if (line == wanted && column >= 0 && column < signs.length) {
                signs[column] = sign;
            }
            column++;
        }

        private void addText(String text) {
            for (int i = 0; i < text.length(); i++) {
                addSign(text.charAt(i));
            }
        }

        private void addNumber(int number) {
            for (int power = TOP_POWER; power > 0; power /= 10) {
                if (number >= power || power == 1) {
                    addSign((char) ('0' + number / power % 10));
                }
            }
        }

        private void addMoney(int cents) {
            int whole = Math.abs(cents) / 100;
            int rest = Math.abs(cents) % 100;
            column = width - digitsOf(whole) - (cents < 0 ? 4 : 3);
            if (cents < 0) {
                addSign('-');
            }
            addNumber(whole);
            addSign('.');
            addSign((char) ('0' + rest / 10));
            addSign((char) ('0' + rest % 10));
        }

        private static int digitsOf(int number) {
            int digits = 1;
            for (int power = TOP_POWER; power > 1; power /= 10) {
                if (number >= power) {
                    digits++;
                }
            }
            return digits;
        }
    }

    /** Everything that a change changes and undo brings back. */
    private static final class State {
        int rollLeft = FIRST_ROLL;
        int linesPrinted;
        int linesSpoilt;
        int rolls = 1;
        int linesThrown;
        int ticks;
        int closed;
        int done;
        int itemsStruck;
        /** The number of the receipt that is printed; 0 if there is none. */
        int printing;
        private final int[] settings = {FIRST_WIDTH, FIRST_ROLL, FIRST_SPEED};
        private final Receipt[] open = new Receipt[TILLS];
        private final Receipt[] ledger = new Receipt[MOST_NOT_DONE + MOST_DONE_KNOWN];

        State() {
            for (int i = 0; i < open.length; i++) {
                open[i] = new Receipt();
            }
            for (int i = 0; i < ledger.length; i++) {
                ledger[i] = new Receipt();
            }
        }

        void copyFrom(State other) {
            rollLeft = other.rollLeft;
            linesPrinted = other.linesPrinted;
            linesSpoilt = other.linesSpoilt;
            rolls = other.rolls;
            linesThrown = other.linesThrown;
            ticks = other.ticks;
            closed = other.closed;
            done = other.done;
            itemsStruck = other.itemsStruck;
            printing = other.printing;
            for (int i = 0; i < settings.length && i < other.settings.length; i++) {
                settings[i] = other.settings[i];
            }
            copyReceipts(other.open, open);
            copyReceipts(other.ledger, ledger);
        }

        private static void copyReceipts(Receipt[] from, Receipt[] to) {
            for (int i = 0; i < from.length && i < to.length; i++) {
                if (from[i] != null && to[i] != null) {
                    to[i].copyFrom(from[i]);
                }
            }
        }

        int settingAt(int setting) {
            return setting >= 0 && setting < settings.length ? settings[setting] : 0;
        }

        int changeSetting(int setting, int value) {
            int previous = settingAt(setting);
            if (setting >= 0 && setting < settings.length) {
                settings[setting] = value;
            }
            return previous;
        }

        /** The open receipt of a till; null if there is no such till. */
        Receipt openAt(int till) {
            return till >= 0 && till < open.length ? open[till] : null;
        }

        int places() {
            return ledger.length;
        }

        /** The receipt in a place of the ledger; null if there is none. */
        Receipt placeAt(int place) {
            if (place < 0 || place >= ledger.length) {
                return null;
            }
            Receipt receipt = ledger[place];
            return receipt == null || receipt.number == 0 ? null : receipt;
        }

        /** Null if there is none. */
        Receipt freePlace() {
            for (int i = 0; i < ledger.length; i++) {
                if (ledger[i] != null && ledger[i].number == 0) {
                    return ledger[i];
                }
            }
            return null;
        }

        /** The receipt with a number; null if the ledger does not know it. */
        Receipt known(int number) {
            for (int i = 0; i < places(); i++) {
                Receipt receipt = placeAt(i);
                if (receipt != null && receipt.number == number) {
                    return receipt;
                }
            }
            return null;
        }

        int receiptsWaiting() {
            int waiting = 0;
            for (int i = 0; i < places(); i++) {
                Receipt receipt = placeAt(i);
                if (receipt != null && receipt.stage == WAITS) {
                    waiting++;
                }
            }
            return waiting;
        }

        /** Null if not so many receipts wait. */
        Receipt waitingAt(int rank) {
            for (int i = 0; i < places(); i++) {
                Receipt receipt = placeAt(i);
                if (receipt != null && receipt.stage == WAITS && waitingAheadOf(receipt) == rank) {
                    return receipt;
                }
            }
            return null;
        }

        private int waitingAheadOf(Receipt receipt) {
            int ahead = 0;
            for (int i = 0; i < places(); i++) {
                Receipt other = placeAt(i);
                if (other != null && other.stage == WAITS && other.isAheadOf(receipt)) {
                    ahead++;
                }
            }
            return ahead;
        }

        /** Lets a tick pass, and tells how many lines were printed in it. */
        int tick() {
            int lines = 0;
            while (lines < settingAt(SPEED) && printLine()) {
                lines++;
            }
            ticks++;
            return lines;
        }

        /** Tells whether a line was printed. A receipt is taken even if the roll has no line left for it. */
        private boolean printLine() {
            Receipt receipt = takeReceipt();
            if (receipt == null || rollLeft <= 0) {
                return false;
            }
            receipt.printed++;
            rollLeft--;
            linesPrinted++;
            if (receipt.printed >= receipt.lines) {
                finish(receipt);
            }
            return true;
        }

        /** The receipt that is printed, the next one that waits if none was; null if there is none. */
        private Receipt takeReceipt() {
            if (printing != 0) {
                return known(printing);
            }
            Receipt next = waitingAt(0);
            if (next != null) {
                next.stage = PRINTED;
                printing = next.number;
            }
            return next;
        }

        private void finish(Receipt receipt) {
            receipt.stage = DONE;
            receipt.doneTick = ticks;
            receipt.doneRank = done;
            printing = 0;
            done++;
            for (int i = 0; i < places(); i++) {
                Receipt old = placeAt(i);
                if (old != null && old.stage == DONE && old.doneRank < done - MOST_DONE_KNOWN) {
                    old.clear();
                }
            }
        }

        int linesToPrint() {
            int lines = 0;
            for (int i = 0; i < places(); i++) {
                Receipt receipt = placeAt(i);
                if (receipt != null) {
                    lines += receipt.linesToPrint();
                }
            }
            return lines;
        }

        /** How many lines are printed until a receipt is done, its own and those of all that are ahead of it. */
        int linesUntilDone(Receipt receipt) {
            int lines = receipt.linesToPrint();
            for (int i = 0; i < places(); i++) {
                Receipt other = placeAt(i);
                if (other != null && other.stage != DONE && other.isAheadOf(receipt)) {
                    lines += other.linesToPrint();
                }
            }
            return lines;
        }

        /** The ticks in which so many lines are printed, if they are there and the roll has them. */
        int ticksFor(int lines) {
            int speed = settingAt(SPEED);
            return speed <= 0 ? 0 : (lines + speed - 1) / speed;
        }
    }

    /** The states ahead of the latest changes, the oldest one first; the objects for them are made once. */
    private static final class History {
        int kept;
        private final State[] states = new State[MOST_HISTORY];

        History() {
            for (int i = 0; i < states.length; i++) {
                states[i] = new State();
            }
        }

        void remember(State state) {
            if (kept >= states.length) {
                dropOldest();
            }
            if (kept >= 0 && kept < states.length && states[kept] != null) {
                states[kept].copyFrom(state);
                kept++;
            }
        }

        /** Behind the others its object is free for the next state. */
        private void dropOldest() {
            State oldest = states.length == 0 ? null : states[0];
            for (int i = 1; i < states.length; i++) {
                states[i - 1] = states[i];
            }
            if (oldest != null) {
                states[states.length - 1] = oldest;
                kept = states.length - 1;
            }
        }

        void giveBack(State state) {
            int latest = kept - 1;
            if (latest >= 0 && latest < states.length && states[latest] != null) {
                state.copyFrom(states[latest]);
                kept = latest;
            }
        }
    }
}
