import java.util.Random;

/** Long runs of calls, ordinary and wrong ones, whose answers are compared with those of PlainRolls; always the same runs. */
public final class RandomRunsTest {
    private static final int RUNS = 200;
    /** The most calls that a step makes. */
    private static final int STEP = 8;
    private static final int[] ODD = {Integer.MIN_VALUE, Integer.MAX_VALUE, -7, -1, 1000, 1 << 16};

    private final Due due = new Due();
    private final Random random;
    private final Rolls x = new Rolls();
    private final PlainRolls plain = new PlainRolls();
    /** How often the run rings, closes and lets ticks pass: each run has its own mixture. */
    private final int busy;

    private RandomRunsTest(int run) {
        random = new Random(run);
        busy = 30 + random.nextInt(50);
        due.part("run " + run);
    }

    public static void main(String[] args) {
        int wrong = 0;
        for (int run = 0; run < RUNS && wrong == 0; run++) {
            RandomRunsTest test = new RandomRunsTest(run);
            test.run();
            wrong += test.due.wrong();
        }
        System.out.println(wrong == 0 ? RUNS + " runs are as due" : "a run is not as due");
        if (wrong != 0) {
            System.exit(1);
        }
    }

    private void run() {
        while (x.used() <= Rolls.MOST_CALLS - STEP && due.wrong() == 0) {
            if (random.nextInt(100) < busy) {
                change();
            } else {
                ask();
            }
        }
        whole();
    }

    /** A number from 0 to most, seldom one out of that range. */
    private int any(int most) {
        int kind = random.nextInt(60);
        if (kind == 0) {
            return ODD[random.nextInt(ODD.length)];
        }
        return kind == 1 ? most + 1 : random.nextInt(most + 1);
    }

    /** A number from least to most, seldom one out of that range. */
    private int any(int least, int most) {
        return random.nextInt(30) == 0 ? least - 1 : least + any(most - least);
    }

    private int receipt() {
        int closed = x.count(1);
        return random.nextInt(12) == 0 ? any(closed + 2) - 3 : Math.max(0, closed - random.nextInt(20));
    }

    private String name() {
        int length = random.nextInt(8) == 0 ? 28 + random.nextInt(4) : 1 + random.nextInt(30);
        int gaps = 2 + random.nextInt(30);
        StringBuilder text = new StringBuilder();
        for (int i = 0; i < length; i++) {
            boolean edge = i == 0 || i == length - 1 || text.charAt(i - 1) == '_';
            boolean gap = random.nextInt(gaps) == 0 && (!edge || random.nextInt(40) == 0);
            text.append(gap ? '_' : (char) ('a' + random.nextInt(26)));
        }
        if (random.nextInt(30) == 0) {
            text.setCharAt(random.nextInt(length), (char) (33 + random.nextInt(94)));
        }
        return text.toString();
    }

    private void put(long characters) {
        due.due("put(" + characters + ")", x.put(characters), plain.put(characters));
    }

    private void ring() {
        if (random.nextInt(20) != 0) {
            String name = name();
            if (x.count(8) > 0 && random.nextInt(6) != 0) {
                due.due("wipe()", x.wipe(), plain.wipe());
            }
            for (int i = 0; i < name.length(); i += 8) {
                put(Due.packed(name.substring(i, Math.min(i + 8, name.length()))));
            }
        }
        int till = any(2);
        int many = random.nextBoolean() ? 1 : any(1, 99);
        int price = random.nextInt(4) == 0 ? any(1, 20) : any(1, 9999);
        int tax = any(2);
        String call = "ring(" + till + ", " + many + ", " + price + ", " + tax + ")";
        due.due(call, x.ring(till, many, price, tax), plain.ring(till, many, price, tax));
    }

    private void change() {
        int till = any(2);
        int kind = random.nextInt(100);
        if (kind < 38) {
            ring();
        } else if (kind < 46) {
            int item = random.nextInt(5) == 0 ? any(12) : any(Math.max(0, x.ofTill(till, 0)));
            due.due("strike(" + till + ", " + item + ")", x.strike(till, item), plain.strike(till, item));
        } else if (kind < 60) {
            int priority = any(3);
            due.due("close(" + till + ", " + priority + ")", x.close(till, priority), plain.close(till, priority));
        } else if (kind < 65) {
            int receipt = receipt();
            int priority = any(3);
            due.due("hurry(" + receipt + ", " + priority + ")", x.hurry(receipt, priority), plain.hurry(receipt, priority));
        } else if (kind < 68) {
            due.due("newRoll()", x.newRoll(), plain.newRoll());
        } else if (kind < 75) {
            int lines = random.nextInt(10) == 0 ? any(1, 99) : any(1, 6);
            due.due("tear(" + lines + ")", x.tear(lines), plain.tear(lines));
        } else if (kind < 86) {
            int ticks = random.nextInt(12) == 0 ? any(1, 99) : any(1, 4);
            due.due("pass(" + ticks + ")", x.pass(ticks), plain.pass(ticks));
        } else if (kind < 91) {
            int setting = any(2);
            int value = setting == 0 ? any(16, 40) : setting == 1 ? any(5, 60) : any(1, 9);
            due.due("set(" + setting + ", " + value + ")", x.set(setting, value), plain.set(setting, value));
        } else if (kind < 96) {
            due.due("undo()", x.undo(), plain.undo());
        } else if (kind < 98) {
            int slot = any(1);
            due.due("save(" + slot + ")", x.save(slot), plain.save(slot));
        } else {
            int slot = any(1);
            due.due("restore(" + slot + ")", x.restore(slot), plain.restore(slot));
        }
    }

    private void ask() {
        int till = any(2);
        int item = any(Math.max(0, x.ofTill(till, 0)));
        int receipt = receipt();
        int what = any(9);
        switch (random.nextInt(18)) {
            case 0 -> due.due("item(" + till + ", " + item + ", " + what + ")", x.item(till, item, what), plain.item(till, item, what));
            case 1 -> due.due("ofTill(" + till + ", " + what + ")", x.ofTill(till, what), plain.ofTill(till, what));
            case 2, 3 -> due.due("ofReceipt(" + receipt + ", " + what + ")", x.ofReceipt(receipt, what), plain.ofReceipt(receipt, what));
            case 4, 5, 6 -> {
                int from = random.nextBoolean() ? receipt : -till;
                int line = any(20);
                int column = any(39);
                due.due("sign(" + from + ", " + line + ", " + column + ")", x.sign(from, line, column), plain.sign(from, line, column));
            }
            case 7 -> due.due("waiting(" + what + ")", x.waiting(what), plain.waiting(what));
            case 8 -> due.due("printer(" + what + ")", x.printer(what), plain.printer(what));
            case 9 -> due.due("count(" + what + ")", x.count(what), plain.count(what));
            case 10 -> {
                int to = any(30);
                int kind = any(2);
                due.due("between(" + receipt + ", " + to + ", " + kind + ")", x.between(receipt, to, kind), plain.between(receipt, to, kind));
            }
            case 11 -> due.due("doneIn(" + receipt + ")", x.doneIn(receipt), plain.doneIn(receipt));
            case 12 -> due.due("linesLeft()", x.linesLeft(), plain.linesLeft());
            case 13 -> due.due("outIn()", x.outIn(), plain.outIn());
            case 14 -> due.due("bestWidth(" + till + ", " + what % 3 + ")", x.bestWidth(till, what % 3), plain.bestWidth(till, what % 3));
            case 15 -> due.due("ifStruck(" + till + ", " + item + ")", x.ifStruck(till, item), plain.ifStruck(till, item));
            case 16 -> due.due("fault()", x.fault(), plain.fault());
            default -> put(oddCharacters());
        }
    }

    private long oddCharacters() {
        long number = random.nextInt(3) == 0 ? random.nextLong() : Due.packed(name().substring(0, 1));
        return number >>> 8 * random.nextInt(8);
    }

    /** Everything that can be asked, at the end of a run. */
    private void whole() {
        for (int what = 0; what < 10; what++) {
            due.due("count(" + what + ")", x.count(what), plain.count(what));
            due.due("printer(" + what + ")", x.printer(what), plain.printer(what));
            due.due("waiting(" + what + ")", x.waiting(what), plain.waiting(what));
            for (int receipt = 1; receipt <= x.count(1); receipt++) {
                due.due("ofReceipt(" + receipt + ", " + what + ")", x.ofReceipt(receipt, what), plain.ofReceipt(receipt, what));
            }
        }
        for (int receipt = -3; receipt <= x.count(1) + 1; receipt++) {
            due.due("doneIn(" + receipt + ")", x.doneIn(receipt), plain.doneIn(receipt));
            for (int line = 0; line == 0 || plain.sign(receipt, line - 1, 0) >= 0; line++) {
                for (int column = 0; column == 0 || plain.sign(receipt, line, column - 1) >= 0; column++) {
                    String call = "sign(" + receipt + ", " + line + ", " + column + ")";
                    due.due(call, x.sign(receipt, line, column), plain.sign(receipt, line, column));
                }
            }
        }
    }
}
