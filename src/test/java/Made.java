/** Objects in states in which calls are refused, or much stands in them: each method brings a new object there. */
final class Made {
    static final String THIRTY = "abcdefghijklmnopqrstuvwxyzabcd";

    private Made() {
    }

    /** Rings an item of 1.00 without tax and closes its receipt: 3 lines. */
    static int closeOne(Rolls x, int till, int priority) {
        Due.ring(x, till, "a", 1, 100, 0);
        return x.close(till, priority);
    }

    /** Rings items of 1.00 without tax until the open receipt of a till has 12. */
    static void fillTill(Rolls x, int till) {
        while (x.ofTill(till, 0) < 12) {
            Due.ring(x, till, "a", 1, 100, 0);
        }
    }

    /** Lets so many ticks pass. */
    static void passAll(Rolls x, int ticks) {
        for (int left = ticks; left > 0; left -= 99) {
            x.pass(Math.min(left, 99));
        }
    }

    /** As it was made, but for a name on the pad. */
    static void named(Rolls x) {
        Due.put(x, "salt");
    }

    /**
     * Till 0 has 12 items of which the last is struck, till 1 two of which the first is struck, till 2 none; receipt 1 is
     * printed (1 of its 4 lines stands), 2 is done, 3 and 4 wait; slot 0 is saved, slot 1 is not; 6 changes can be undone;
     * the pad tells a name.
     */
    static void busy(Rolls x) {
        x.set(ReceiptRolls.SPEED, 1);
        Due.ring(x, 2, "bread_and_butter_and_more_milk", 1, 5, 0);
        x.close(2, 3);
        Due.ring(x, 0, "red_wine", 2, 150, 1);
        x.close(0, 1);
        x.hurry(1, 2);
        x.hurry(2, 3);
        x.pass(6);
        Due.ring(x, 1, "tea", 1, 99, 2);
        x.strike(1, 0);
        x.close(1, 0);
        x.set(ReceiptRolls.ROLL, 30);
        x.newRoll();
        closeOne(x, 2, 1);
        fillTill(x, 0);
        x.save(0);
        x.strike(0, 11);
        x.pass(1);
        x.tear(1);
        Due.ring(x, 1, "jam", 3, 250, 1);
        Due.ring(x, 1, "ham", 1, 720, 2);
        x.strike(1, 0);
        Due.put(x, "salt");
    }

    /** As busy, but with only 2 changes that can be undone. */
    static void busyAndUndone(Rolls x) {
        busy(x);
        for (int i = 0; i < 4; i++) {
            x.undo();
        }
        Due.put(x, "y");
    }

    /** 10 receipts are closed and not done; till 0 has one item, till 1 none, till 2 has 12; the pad tells a name. */
    static void full(Rolls x) {
        for (int i = 0; i < 10; i++) {
            closeOne(x, i % 3, i % 4);
        }
        Due.ring(x, 0, "tea", 1, 99, 2);
        fillTill(x, 2);
        Due.put(x, "salt");
    }

    /** As full, with a fault on the pad. */
    static void faulty(Rolls x) {
        full(x);
        x.put('_');
    }

    /** The roll has no line left; receipt 2 is printed, all lines of it were torn; the pad tells a name. */
    static void rollOut(Rolls x) {
        x.set(ReceiptRolls.ROLL, 5);
        x.set(ReceiptRolls.SPEED, 1);
        x.newRoll();
        closeOne(x, 0, 1);
        x.pass(5);
        closeOne(x, 0, 0);
        x.pass(5);
        x.tear(2);
        named(x);
    }

    /** So many ticks have passed; a receipt waits, and one item is rung; the pad tells a name. */
    static void late(Rolls x, int ticks) {
        passAll(x, ticks);
        closeOne(x, 0, 1);
        Due.ring(x, 1, "tea", 1, 99, 2);
        named(x);
    }

    /** The pad has 80 characters. */
    static void padFull(Rolls x) {
        Due.put(x, THIRTY + THIRTY + "abcdefghijklmnopqrst");
    }
}
