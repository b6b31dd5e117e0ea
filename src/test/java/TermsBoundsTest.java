/** The sentences of "What it is" and of "Terms" that name a boundary: each has a test of its own. */
public final class TermsBoundsTest {
    private static final int NO_SUCH = -1, BAD_VALUE = -2, BAD_TEXT = -3, TOO_MANY = -4, NOT_POSSIBLE = -5, NONE = -6;
    private static final int LEAST = Integer.MIN_VALUE, MOST = Integer.MAX_VALUE;
    private static final Due DUE = new Due();

    private TermsBoundsTest() {
    }

    public static void main(String[] args) {
        the512thCall();
        rangeOfWidth();
        rangeOfRoll();
        rangeOfSpeed();
        threeTills();
        twelveItems();
        numbersOfItems();
        rangeOfMany();
        rangeOfPrice();
        rangeOfTax();
        struckOnce();
        sumOfAnItem();
        lengthOfAName();
        signsOfAName();
        gapsOfAName();
        totals();
        taxRoundedDown();
        taxOfSumsTogether();
        head();
        howManyAsOneWordMore();
        wordsFit();
        longWords();
        orderOfLines();
        moneyOfItems();
        moneyBelowZero();
        moneyOfSums();
        taxLines();
        widthWhenClosed();
        priorities();
        oneAtATime();
        linesOfATick();
        nothingToPrint();
        rollRunsOut();
        takenOnAnEmptyRoll();
        doneBehindTheLastLine();
        ticksAreCounted();
        newAtFirst();
        torn();
        tornByItself();
        ledgerOfNotDone();
        ledgerOfDone();
        lengthOfThePad();
        theFault();
        DUE.end();
    }

    private static void due(String call, long got, long want) {
        DUE.due(call, got, want);
    }

    private static void dueLine(Rolls x, int receipt, int line, String want) {
        DUE.due("line " + line + " of " + receipt, Due.line(x, receipt, line), want);
    }

    private static String letters(int many) {
        return (Made.THIRTY + Made.THIRTY + Made.THIRTY).substring(0, many);
    }

    /** "An object is used for at most 512 calls": the 512th one is answered as any other. */
    private static void the512thCall() {
        DUE.part("512 calls");
        ReceiptRolls rolls = new ReceiptRolls();
        ReceiptRolls saved = new ReceiptRolls();
        saved.save(0);
        for (int call = 1; call <= 511; call++) {
            due("newRoll " + call, rolls.newRoll(), 40);
            if (call > 1) {
                due("restore " + call, saved.restore(0), 0);
            }
        }
        due("512th: rolls", rolls.printer(4), 512);
        due("512th: changes", saved.count(9), 6);

        // 16 rounds of 32 calls, the last of which closes the receipt with the greatest number.
        ReceiptRolls closes = new ReceiptRolls();
        for (int round = 0; round < 16; round++) {
            due("newRoll", closes.newRoll(), round < 2 ? 40 : 10);
            due("pass", closes.pass(99), round == 0 ? 0 : 30);
            for (int i = 1; i <= 10; i++) {
                due("put", closes.put('a'), 1);
                due("ring", closes.ring(0, 1, 1, 0), 0);
                due("close", closes.close(0, 0), 10 * round + i);
            }
        }
    }

    private static void rangeOfWidth() {
        DUE.part("WIDTH (16 to 40; 24): characters of a line");
        Rolls x = new Rolls();
        due("at first", x.count(5), 24);
        dueLine(x, 0, 1, "sum                 0.00");
        due("15", x.set(ReceiptRolls.WIDTH, 15), BAD_VALUE);
        due("16", x.set(ReceiptRolls.WIDTH, 16), 24);
        dueLine(x, 0, 1, "sum         0.00");
        due("41", x.set(ReceiptRolls.WIDTH, 41), BAD_VALUE);
        due("40", x.set(ReceiptRolls.WIDTH, 40), 16);
        dueLine(x, 0, 1, "sum                                 0.00");
        due("LEAST", x.set(ReceiptRolls.WIDTH, LEAST), BAD_VALUE);
        due("MOST", x.set(ReceiptRolls.WIDTH, MOST), BAD_VALUE);
        due("it stays", x.count(5), 40);
    }

    private static void rangeOfRoll() {
        DUE.part("ROLL (5 to 200; 40): lines of a new roll");
        Rolls x = new Rolls();
        due("at first", x.count(6), 40);
        due("4", x.set(ReceiptRolls.ROLL, 4), BAD_VALUE);
        due("5", x.set(ReceiptRolls.ROLL, 5), 40);
        due("the first one", x.newRoll(), 40);
        due("a roll of 5", x.newRoll(), 5);
        due("201", x.set(ReceiptRolls.ROLL, 201), BAD_VALUE);
        due("200", x.set(ReceiptRolls.ROLL, 200), 5);
        due("a roll of 5", x.newRoll(), 5);
        due("a roll of 200", x.newRoll(), 200);
        due("LEAST", x.set(ReceiptRolls.ROLL, LEAST), BAD_VALUE);
        due("MOST", x.set(ReceiptRolls.ROLL, MOST), BAD_VALUE);
        due("it stays", x.count(6), 200);
    }

    private static void rangeOfSpeed() {
        DUE.part("SPEED (1 to 9; 2): lines that are printed in a tick");
        Rolls x = new Rolls();
        for (int i = 0; i < 4; i++) {
            Made.closeOne(x, 0, 0);
        }
        due("at first", x.count(7), 2);
        due("2 lines", x.pass(1), 2);
        due("0", x.set(ReceiptRolls.SPEED, 0), BAD_VALUE);
        due("1", x.set(ReceiptRolls.SPEED, 1), 2);
        due("1 line", x.pass(1), 1);
        due("10", x.set(ReceiptRolls.SPEED, 10), BAD_VALUE);
        due("9", x.set(ReceiptRolls.SPEED, 9), 1);
        due("9 lines", x.pass(1), 9);
        due("LEAST", x.set(ReceiptRolls.SPEED, LEAST), BAD_VALUE);
        due("MOST", x.set(ReceiptRolls.SPEED, MOST), BAD_VALUE);
        due("it stays", x.count(7), 9);
    }

    private static void threeTills() {
        DUE.part("There are 3 tills, 0 to 2; each has an open receipt, at first without items");
        for (int till = 0; till <= 2; till++) {
            Rolls x = new Rolls();
            due("items of " + till, x.ofTill(till, 0), 0);
            due("an item of " + till, x.item(till, 0, 0), NO_SUCH);
            due("lines of " + till, x.ofTill(till, 3), 2);
            dueLine(x, -till, 1, "sum                 0.00");
            dueLine(x, -till, 2, "none");
            due("its item", Due.ring(x, till, "a", 1, 1, 0), 0);
            for (int other = 0; other <= 2; other++) {
                due("items of " + other, x.ofTill(other, 0), other == till ? 1 : 0);
            }
            due("ofTill", x.ofTill(till, 2), 1);
            due("item", x.item(till, 0, 3), 1);
            due("sign", x.sign(-till, 1, 0), 'a');
            due("bestWidth", x.bestWidth(till, 1), 3);
            due("ifStruck", x.ifStruck(till, 0), 0);
            due("strike", x.strike(till, 0), 1);
            due("close", x.close(till, 0), 1);
            due("its till", x.ofReceipt(1, 1), till);
        }
        for (int till : new int[] {-1, 3, LEAST, MOST}) {
            Rolls x = new Rolls();
            Made.named(x);
            due("ring " + till, x.ring(till, 1, 1, 0), NO_SUCH);
            due("ofTill " + till, x.ofTill(till, 0), NO_SUCH);
            due("sign " + -till, x.sign(-till, 0, 0), NO_SUCH);
        }
    }

    private static void twelveItems() {
        DUE.part("an open receipt, of up to 12 items");
        Rolls x = new Rolls();
        for (int i = 0; i < 12; i++) {
            due("ring", Due.ring(x, 0, "a", 1, 1, 0), i);
        }
        due("items", x.ofTill(0, 0), 12);
        Made.named(x);
        due("the thirteenth", x.ring(0, 1, 1, 0), TOO_MANY);
        for (int i = 0; i < 12; i++) {
            due("strike", x.strike(0, i), 1);
        }
        due("struck ones are items", x.ring(0, 1, 1, 0), TOO_MANY);
        due("another till", x.ring(1, 1, 1, 0), 0);
        due("close", x.close(0, 0), 1);
        due("its items", x.ofReceipt(1, 3), 12);
        due("those struck", x.ofReceipt(1, 4), 12);
        due("its lines", x.ofReceipt(1, 6), 26);
        due("on the next one", Due.ring(x, 0, "a", 1, 1, 0), 0);
    }

    private static void numbersOfItems() {
        DUE.part("numbered in the order in which they were rung");
        Rolls x = new Rolls();
        for (int i = 0; i < 12; i++) {
            Due.ring(x, 0, "a", 1, 100 + i, 0);
            Due.ring(x, 1, "b", 1, 300 + i, 0);
            x.strike(0, i);
        }
        for (int i = 0; i < 12; i++) {
            due("item " + i, x.item(0, i, 1), 100 + i);
            due("item " + i, x.item(1, i, 1), 300 + i);
        }
    }

    private static void rangeOfMany() {
        DUE.part("how many (1 to 99)");
        Rolls x = new Rolls();
        Made.named(x);
        for (int wrong : new int[] {0, 100, -1, LEAST, MOST}) {
            due("many " + wrong, x.ring(0, wrong, 1, 0), BAD_VALUE);
        }
        due("99", x.ring(0, 99, 1, 0), 0);
        due("1", Due.ring(x, 0, "a", 1, 1, 0), 1);
        due("99", x.item(0, 0, 0), 99);
        due("1", x.item(0, 1, 0), 1);
    }

    private static void rangeOfPrice() {
        DUE.part("a price (1 to 9999)");
        Rolls x = new Rolls();
        Made.named(x);
        for (int wrong : new int[] {0, 10000, -1, LEAST, MOST}) {
            due("price " + wrong, x.ring(0, 1, wrong, 0), BAD_VALUE);
        }
        due("9999", x.ring(0, 1, 9999, 0), 0);
        due("1", Due.ring(x, 0, "a", 1, 1, 0), 1);
        due("9999", x.item(0, 0, 1), 9999);
        due("1", x.item(0, 1, 1), 1);
    }

    private static void rangeOfTax() {
        DUE.part("a tax, 0, 1 or 2, with the rates 0, 7 and 19");
        Rolls x = new Rolls();
        Made.named(x);
        for (int wrong : new int[] {-1, 3, 7, 19, LEAST, MOST}) {
            due("tax " + wrong, x.ring(0, 1, 1, wrong), BAD_VALUE);
        }
        x.wipe();
        int[] taxes7 = {0, 7, 0};
        int[] taxes19 = {0, 0, 19};
        int[] prices = {100, 107, 119};
        for (int tax = 0; tax <= 2; tax++) {
            due("tax " + tax, Due.ring(x, tax, "a", 1, prices[tax], tax), 0);
            due("tax " + tax, x.item(tax, 0, 2), tax);
            due("of 7", x.ofTill(tax, 4), taxes7[tax]);
            due("of 19", x.ofTill(tax, 5), taxes19[tax]);
        }
        dueLine(x, 0, 3, "none");
        dueLine(x, -1, 3, "tax 7               0.07");
        dueLine(x, -2, 3, "tax 19              0.19");
    }

    private static void struckOnce() {
        DUE.part("it can be struck, once");
        Rolls x = new Rolls();
        Made.fillTill(x, 0);
        for (int item : new int[] {0, 11, 5}) {
            due("before", x.item(0, item, 4), 0);
            due("strike", x.strike(0, item), 100);
            due("struck", x.item(0, item, 4), 1);
            due("again", x.strike(0, item), NOT_POSSIBLE);
        }
        due("struck so far", x.count(4), 3);
        due("void lines", x.ofTill(0, 3), 17);
    }

    private static void sumOfAnItem() {
        DUE.part("Its sum is how many * price");
        Rolls x = new Rolls();
        int[][] items = {{1, 1, 1}, {99, 1, 99}, {1, 9999, 9999}, {99, 9999, 989901}, {2, 50, 100}};
        for (int i = 0; i < items.length; i++) {
            Due.ring(x, 0, "a", items[i][0], items[i][1], 0);
            due("sum " + i, x.item(0, i, 3), items[i][2]);
        }
        for (int i = 0; i < items.length; i++) {
            due("strike " + i, x.strike(0, i), items[i][2]);
        }
    }

    private static void lengthOfAName() {
        DUE.part("A name has 1 to 30 characters");
        for (int length : new int[] {0, 1, 2, 29, 30, 31, 32, 79, 80}) {
            Rolls x = new Rolls();
            Due.put(x, letters(length));
            boolean name = length >= 1 && length <= 30;
            due("fault at " + length, x.fault(), name ? NONE : Math.min(length, 30));
            due("ring with " + length, x.ring(0, 1, 1, 0), name ? 0 : BAD_TEXT);
            due("length " + length, x.item(0, 0, 6), name ? length : NO_SUCH);
        }
    }

    private static void signsOfAName() {
        DUE.part("a to z and \"_\"");
        for (char sign = 33; sign <= 126; sign++) {
            boolean letter = sign >= 'a' && sign <= 'z';
            Rolls x = new Rolls();
            x.put(sign);
            due("the first: " + sign, x.fault(), letter ? NONE : 0);
            x.wipe();
            x.put('a' << 16 | sign << 8 | 'z');
            due("between: " + sign, x.fault(), letter || sign == '_' ? NONE : 1);
            x.wipe();
            x.put('a' << 8 | sign);
            due("the last: " + sign, x.fault(), letter ? NONE : sign == '_' ? 2 : 1);
        }
    }

    private static void gapsOfAName() {
        DUE.part("it neither begins nor ends with \"_\", nor are two of them side by side");
        Object[][] pads = {{"_", 0}, {"__", 0}, {"_a", 0}, {"a_", 2}, {"a_b", NONE}, {"a__", 2}, {"a__b", 2}, {"a_b_", 4},
            {"a_b_c", NONE}, {"a_b__c", 4}, {letters(27) + "_", 28}, {letters(27) + "_ab", NONE},
            {letters(28) + "_", 29}, {letters(28) + "_a", NONE}, {letters(28) + "__", 29}, {letters(28) + "_ab", 30}};
        for (Object[] pad : pads) {
            Rolls x = new Rolls();
            Due.put(x, (String) pad[0]);
            int want = (Integer) pad[1];
            due("fault of " + pad[0], x.fault(), want);
            due("ring " + pad[0], x.ring(0, 1, 1, 0), want == NONE ? 0 : BAD_TEXT);
        }
    }

    private static void totals() {
        DUE.part("The total of a receipt is the sum of all items that are not struck");
        Rolls x = new Rolls();
        due("without items", x.ofTill(0, 2), 0);
        for (int i = 1; i <= 12; i++) {
            Due.ring(x, 0, "a", 99, 9999, 2);
            due("with " + i, x.ofTill(0, 2), 989901 * i);
        }
        for (int i = 11; i >= 0; i--) {
            x.strike(0, i);
            due("with " + i, x.ofTill(0, 2), 989901 * i);
        }
    }

    private static void taxRoundedDown() {
        DUE.part("The tax of a rate r on s cents is (2 * s * r + 100 + r) / (2 * (100 + r)); divisions are rounded down");
        int[][] sevens = {{1, 0}, {7, 0}, {8, 1}, {22, 1}, {23, 2}, {84, 5}, {85, 6}, {107, 7}, {9999, 654}};
        int[][] nineteens = {{1, 0}, {3, 0}, {4, 1}, {9, 1}, {10, 2}, {119, 19}, {9999, 1596}};
        for (int[] seven : sevens) {
            Rolls x = new Rolls();
            Due.ring(x, 0, "a", 1, seven[0], 1);
            due("7 of " + seven[0], x.ofTill(0, 4), seven[1]);
            due("19 of it", x.ofTill(0, 5), 0);
        }
        for (int[] nineteen : nineteens) {
            Rolls x = new Rolls();
            Due.ring(x, 0, "a", 1, nineteen[0], 2);
            due("19 of " + nineteen[0], x.ofTill(0, 5), nineteen[1]);
            due("7 of it", x.ofTill(0, 4), 0);
        }
    }

    private static void taxOfSumsTogether() {
        DUE.part("on such sums of s cents together");
        Rolls x = new Rolls();
        due("without items", x.ofTill(0, 4), 0);
        Due.ring(x, 0, "a", 1, 4, 1);
        due("of 4", x.ofTill(0, 4), 0);
        Due.ring(x, 0, "b", 1, 4, 1);
        due("of 8", x.ofTill(0, 4), 1);
        Due.ring(x, 0, "c", 1, 3, 2);
        due("of 8, and of 3", x.ofTill(0, 4), 1);
        due("of 3", x.ofTill(0, 5), 0);
        x.strike(0, 0);
        due("a struck one does not count", x.ofTill(0, 4), 0);
        for (int i = 0; i < 12; i++) {
            Due.ring(x, 1, "a", 99, 9999, 1);
            Due.ring(x, 2, "a", 99, 9999, 2);
        }
        due("the greatest of 7", x.ofTill(1, 4), 777119);
        due("the greatest of 19", x.ofTill(2, 5), 1896617);
    }

    private static void head() {
        DUE.part("\"#\" and its number (of an open receipt the number that it would get if it was closed now)");
        Rolls x = new Rolls();
        x.set(ReceiptRolls.SPEED, 9);
        for (int i = 1; i <= 100; i++) {
            if (i % 10 == 1) {
                x.newRoll();
                x.pass(4);
            }
            if (i == 1 || i == 9 || i == 10 || i == 99 || i == 100) {
                for (int till = 0; till <= 2; till++) {
                    dueLine(x, -till, 0, ("#" + i + " ".repeat(23)).substring(0, 24));
                }
                due("close", Made.closeOne(x, 0, 0), i);
                dueLine(x, i, 0, ("#" + i + " ".repeat(23)).substring(0, 24));
            } else {
                Made.closeOne(x, 0, 0);
            }
        }
    }

    private static void howManyAsOneWordMore() {
        DUE.part("ahead of these, if it is more than one, how many and \"x\" as one word more");
        Rolls x = new Rolls();
        int[] many = {1, 2, 9, 10, 99};
        String[] lines = {"a                   0.01", "2x a                0.02", "9x a                0.09",
            "10x a               0.10", "99x a               0.99"};
        for (int i = 0; i < many.length; i++) {
            Due.ring(x, 0, "a", many[i], 1, 0);
            dueLine(x, 0, 1 + i, lines[i]);
        }
    }

    /** Names of an item and its lines: the only ones ahead of the sum. */
    private static void dueItem(int width, int many, String name, String... lines) {
        Rolls x = new Rolls();
        x.set(ReceiptRolls.WIDTH, width);
        Due.ring(x, 0, name, many, 1, 0);
        due("lines of " + name, x.item(0, 0, 5), lines.length);
        due("lines with " + name, x.ofTill(0, 3), lines.length + 2);
        for (int i = 0; i < lines.length; i++) {
            String money = i == lines.length - 1 ? many < 10 ? "0.0" + many : "0." + many : "";
            dueLine(x, 0, 1 + i, lines[i] + " ".repeat(width - lines[i].length() - money.length()) + money);
        }
        due("sum behind them", x.sign(0, lines.length + 1, 0), 's');
    }

    private static void wordsFit() {
        DUE.part("laid into lines of WIDTH - 8 characters, one blank between two words, each as soon as it has room there");
        dueItem(16, 1, "abcdefgh", "abcdefgh");
        dueItem(16, 1, "abc_defg", "abc defg");
        dueItem(16, 1, "abc_defgh", "abc", "defgh");
        dueItem(16, 1, "abcdef_g", "abcdef g");
        dueItem(16, 1, "abcdefg_h", "abcdefg", "h");
        dueItem(16, 1, "a_bcdefg", "a bcdefg");
        dueItem(16, 1, "a_bcdefgh", "a", "bcdefgh");
        dueItem(16, 1, "a_b_c_d_e_f_g_h_i_j_k_l_m_n_o", "a b c d", "e f g h", "i j k l", "m n o");
        dueItem(16, 1, "ab_cdefg_hi", "ab cdefg", "hi");
        dueItem(16, 9, "abcde", "9x abcde");
        dueItem(16, 9, "abcdef", "9x", "abcdef");
        dueItem(16, 99, "abcd", "99x abcd");
        dueItem(16, 99, "abcde", "99x", "abcde");
        dueItem(17, 99, "abcde", "99x abcde");
        dueItem(17, 1, "abcdefghi", "abcdefghi");
        dueItem(24, 1, "abcdefghij_klmno", "abcdefghij klmno");
        dueItem(24, 1, "abcdefghij_klmnop", "abcdefghij", "klmnop");
        dueItem(40, 99, "abcdefghijklmnopqrst_abcdefg", "99x abcdefghijklmnopqrst abcdefg");
        dueItem(40, 99, "abcdefghijklmnopqrst_abcdefgh", "99x abcdefghijklmnopqrst", "abcdefgh");
        dueItem(40, 10, Made.THIRTY, "10x", Made.THIRTY);
        dueItem(38, 1, Made.THIRTY, Made.THIRTY);
    }

    private static void longWords() {
        DUE.part("a word that is longer than a line begins a new line (unless the line is empty), and goes on");
        dueItem(16, 1, "abcdefghi", "abcdefgh", "i");
        dueItem(16, 1, "abcdefghijklmnop", "abcdefgh", "ijklmnop");
        dueItem(16, 1, "abcdefghijklmnopq", "abcdefgh", "ijklmnop", "q");
        dueItem(16, 1, "abcdefghijklmnop_q", "abcdefgh", "ijklmnop", "q");
        dueItem(16, 1, "a_bcdefghij", "a", "bcdefghi", "j");
        dueItem(16, 2, "abcdefghi", "2x", "abcdefgh", "i");
        dueItem(16, 99, Made.THIRTY, "99x", "abcdefgh", "ijklmnop", "qrstuvwx", "yzabcd");
        dueItem(16, 1, "abcdefghi_jklmno", "abcdefgh", "i jklmno");
        dueItem(16, 1, "abcdefghi_jklmnop", "abcdefgh", "i", "jklmnop");
        dueItem(16, 1, "abcdefghi_jklmnopqr", "abcdefgh", "i", "jklmnopq", "r");
        dueItem(16, 1, "abcdefgh_ijklmnopq", "abcdefgh", "ijklmnop", "q");
        dueItem(16, 1, "abcdefghi_j_klmnopqrs_t", "abcdefgh", "i j", "klmnopqr", "s t");
        dueItem(24, 1, Made.THIRTY, "abcdefghijklmnop", "qrstuvwxyzabcd");
        dueItem(37, 1, Made.THIRTY, Made.THIRTY.substring(0, 29), "d");
        dueItem(37, 99, Made.THIRTY, "99x", Made.THIRTY.substring(0, 29), "d");
    }

    private static void orderOfLines() {
        DUE.part("What happened to its items, in the order in which it did");
        Rolls x = new Rolls();
        Due.ring(x, 0, "a", 1, 100, 0);
        Due.ring(x, 0, "b", 1, 200, 0);
        x.strike(0, 1);
        Due.ring(x, 0, "c", 1, 300, 0);
        x.strike(0, 0);
        String[] lines = {"#1                      ", "a                   1.00", "b                   2.00",
            "void 1             -2.00", "c                   3.00", "void 0             -1.00", "sum                 3.00",
            "none"};
        for (int line = 0; line < lines.length; line++) {
            dueLine(x, 0, line, lines[line]);
        }
        for (int i = 3; i < 12; i++) {
            Due.ring(x, 0, "d", 1, 1, 0);
        }
        for (int i = 11; i >= 2; i--) {
            x.strike(0, i);
            dueLine(x, 0, 15 + 11 - i, (i < 10 ? "void " + i + " " : "void " + i)
                + "            " + (i > 2 ? "-0.01" : "-3.00"));
        }
        dueLine(x, 0, 25, "sum                 0.00");
        dueLine(x, 0, 26, "none");
    }

    private static void moneyOfItems() {
        DUE.part("whole hundreds of cents, \".\", two digits of cents; its last character is the last one of the line");
        int[] prices = {1, 9, 10, 99, 100, 101, 110, 999, 1000, 9999};
        String[] money = {"0.01", "0.09", "0.10", "0.99", "1.00", "1.01", "1.10", "9.99", "10.00", "99.99"};
        for (int width : new int[] {16, 40}) {
            Rolls x = new Rolls();
            x.set(ReceiptRolls.WIDTH, width);
            for (int i = 0; i < prices.length; i++) {
                Due.ring(x, 0, "a", 1, prices[i], 0);
                dueLine(x, 0, 1 + i, "a" + " ".repeat(width - 1 - money[i].length()) + money[i]);
            }
            Due.ring(x, 1, "abcd", 99, 9999, 0);
            dueLine(x, -1, 1, "99x abcd" + " ".repeat(width - 15) + "9899.01");
        }
    }

    private static void moneyBelowZero() {
        DUE.part("\"-\", if it is below 0");
        int[][] items = {{1, 1}, {1, 9}, {1, 10}, {1, 99}, {1, 100}, {10, 100}, {99, 9999}};
        String[] money = {"-0.01", "-0.09", "-0.10", "-0.99", "-1.00", "-10.00", "-9899.01"};
        for (int width : new int[] {16, 40}) {
            Rolls x = new Rolls();
            x.set(ReceiptRolls.WIDTH, width);
            for (int i = 0; i < items.length; i++) {
                Due.ring(x, 0, "a", items[i][0], items[i][1], 0);
            }
            for (int i = 0; i < items.length; i++) {
                x.strike(0, i);
                dueLine(x, 0, 8 + i, "void " + i + " ".repeat(width - 6 - money[i].length()) + money[i]);
            }
        }
    }

    private static void moneyOfSums() {
        DUE.part("\"sum\", with the total at the right");
        for (int width : new int[] {16, 40}) {
            Rolls x = new Rolls();
            x.set(ReceiptRolls.WIDTH, width);
            dueLine(x, 0, 1, "sum" + " ".repeat(width - 7) + "0.00");
            for (int i = 0; i < 12; i++) {
                Due.ring(x, 0, "a", 99, 9999, 2);
                Due.ring(x, 1, "a", 99, 9999, 1);
            }
            dueLine(x, 0, 13, "sum" + " ".repeat(width - 12) + "118788.12");
            dueLine(x, 0, 14, "tax 19" + " ".repeat(width - 14) + "18966.17");
            dueLine(x, -1, 13, "sum" + " ".repeat(width - 12) + "118788.12");
            dueLine(x, -1, 14, "tax 7" + " ".repeat(width - 12) + "7771.19");
        }
    }

    private static void taxLines() {
        DUE.part("For each rate above 0 that an item has that is not struck, rising");
        Rolls x = new Rolls();
        Due.ring(x, 0, "a", 1, 100, 0);
        dueLine(x, 0, 3, "none");
        Due.ring(x, 0, "b", 1, 119, 2);
        dueLine(x, 0, 4, "tax 19              0.19");
        dueLine(x, 0, 5, "none");
        Due.ring(x, 0, "c", 1, 1, 1);
        dueLine(x, 0, 5, "tax 7               0.00");
        dueLine(x, 0, 6, "tax 19              0.19");
        dueLine(x, 0, 7, "none");
        Due.ring(x, 0, "d", 1, 119, 2);
        x.strike(0, 1);
        dueLine(x, 0, 7, "tax 7               0.00");
        dueLine(x, 0, 8, "tax 19              0.19");
        x.strike(0, 2);
        dueLine(x, 0, 7, "sum                 2.19");
        dueLine(x, 0, 8, "tax 19              0.19");
        dueLine(x, 0, 9, "none");
        x.strike(0, 3);
        dueLine(x, 0, 8, "sum                 1.00");
        dueLine(x, 0, 9, "none");
    }

    private static void widthWhenClosed() {
        DUE.part("The lines are laid by WIDTH as it is when the receipt is closed (of an open one as it is now)");
        Rolls x = new Rolls();
        x.set(ReceiptRolls.WIDTH, 16);
        Due.ring(x, 0, Made.THIRTY, 1, 1, 0);
        Due.ring(x, 1, Made.THIRTY, 1, 1, 0);
        due("open at 16", x.ofTill(0, 3), 6);
        x.set(ReceiptRolls.WIDTH, 40);
        due("open at 40", x.ofTill(0, 3), 3);
        x.close(0, 0);
        x.set(ReceiptRolls.WIDTH, 16);
        x.close(1, 0);
        x.set(ReceiptRolls.WIDTH, 24);
        due("closed at 40", x.ofReceipt(1, 6), 3);
        due("closed at 40", x.ofReceipt(1, 8), 40);
        dueLine(x, 1, 1, Made.THIRTY + "      0.01");
        due("closed at 16", x.ofReceipt(2, 6), 6);
        due("closed at 16", x.ofReceipt(2, 8), 16);
        dueLine(x, 2, 4, "yzabcd      0.01");
        due("lines left", x.linesLeft(), 9);
        due("printed by them", x.pass(9), 9);
    }

    private static void priorities() {
        DUE.part("it takes the one that waits with the highest priority, of several the lowest number");
        Rolls x = new Rolls();
        x.set(ReceiptRolls.SPEED, 1);
        int[] given = {0, 3, 1, 2, 3, 0, 2, 1};
        int[] order = {2, 5, 4, 7, 3, 8, 1, 6};
        for (int priority : given) {
            Made.closeOne(x, 0, priority);
        }
        for (int i = 0; i < order.length; i++) {
            due("waiting", x.waiting(0), order[i]);
            due("pass", x.pass(3), 3);
            due("done in its turn", x.ofReceipt(order[i], 9), 3 * i + 2);
        }
    }

    private static void oneAtATime() {
        DUE.part("The printer prints one receipt at a time");
        Rolls x = new Rolls();
        x.set(ReceiptRolls.SPEED, 1);
        Made.closeOne(x, 0, 0);
        x.pass(1);
        Made.closeOne(x, 0, 3);
        x.pass(1);
        due("a higher one waits", x.printer(0), 1);
        due("it waits", x.ofReceipt(2, 0), 0);
        due("the line is not its", x.ofReceipt(2, 7), 0);
        x.pass(1);
        due("the first is done", x.ofReceipt(1, 0), 2);
        due("none is printed", x.printer(0), NONE);
        due("none of it yet", x.ofReceipt(2, 0), 0);
        x.pass(1);
        due("now the second", x.printer(0), 2);
    }

    private static void linesOfATick() {
        DUE.part("In a tick it prints SPEED lines, one after the other: if it prints none, it takes one");
        Rolls x = new Rolls();
        x.set(ReceiptRolls.SPEED, 9);
        for (int i = 0; i < 7; i++) {
            Made.closeOne(x, 0, 0);
        }
        due("three receipts in a tick", x.pass(1), 9);
        due("done", x.count(3), 3);
        due("none is printed", x.printer(0), NONE);
        x.set(ReceiptRolls.SPEED, 8);
        due("two and a part of the third", x.pass(1), 8);
        due("done", x.count(3), 5);
        due("its lines", x.ofReceipt(6, 7), 2);
        due("the rest of it, and the last", x.pass(1), 4);
        due("done", x.count(3), 7);
    }

    private static void nothingToPrint() {
        DUE.part("if there is none, nothing more is printed in this tick; then the tick is counted");
        Rolls x = new Rolls();
        due("nothing", x.pass(1), 0);
        due("counted", x.count(0), 1);
        due("the roll stays", x.printer(1), 40);
        Made.closeOne(x, 0, 0);
        due("the 3 lines that there are", x.pass(99), 3);
        due("counted", x.count(0), 100);
        due("the roll", x.printer(1), 37);
    }

    private static void rollRunsOut() {
        DUE.part("or the roll has no line left, nothing more is printed in this tick");
        Rolls x = new Rolls();
        x.set(ReceiptRolls.ROLL, 5);
        x.set(ReceiptRolls.SPEED, 9);
        x.newRoll();
        Made.closeOne(x, 0, 0);
        Made.closeOne(x, 0, 0);
        due("5 of 6 lines", x.pass(1), 5);
        due("none left", x.printer(1), 0);
        due("it is printed", x.printer(0), 2);
        due("lines of it", x.ofReceipt(2, 7), 2);
        due("nothing more", x.pass(99), 0);
        due("counted", x.count(0), 100);
        x.newRoll();
        due("the last line", x.pass(1), 1);
        due("done in that tick", x.ofReceipt(2, 9), 100);
    }

    private static void takenOnAnEmptyRoll() {
        DUE.part("if it prints none, it takes one; if the roll has no line left, nothing more is printed");
        Rolls x = new Rolls();
        x.set(ReceiptRolls.ROLL, 6);
        x.set(ReceiptRolls.SPEED, 9);
        x.newRoll();
        for (int i = 0; i < 3; i++) {
            Made.closeOne(x, 0, 0);
        }
        due("all lines of the roll", x.pass(1), 6);
        due("the third is taken", x.printer(0), 3);
        due("none of its lines", x.ofReceipt(3, 7), 0);
        due("tear", x.tear(1), NOT_POSSIBLE);
        due("hurry", x.hurry(3, 1), NOT_POSSIBLE);
        Made.closeOne(x, 0, 3);
        x.newRoll();
        x.pass(1);
        due("it goes first", x.ofReceipt(3, 9), 1);
        due("then the higher one", x.ofReceipt(4, 9), 1);
        due("by number and turn", x.printer(2), 12);
    }

    private static void doneBehindTheLastLine() {
        DUE.part("behind the last line the receipt is done");
        Rolls x = new Rolls();
        x.set(ReceiptRolls.SPEED, 1);
        Made.closeOne(x, 0, 0);
        due("it waits", x.ofReceipt(1, 0), 0);
        x.pass(1);
        due("first line", x.ofReceipt(1, 0), 1);
        x.pass(1);
        due("last but one", x.ofReceipt(1, 0), 1);
        due("not done", x.ofReceipt(1, 9), NONE);
        x.pass(1);
        due("last line", x.ofReceipt(1, 0), 2);
        due("none is printed", x.printer(0), NONE);
        x.set(ReceiptRolls.ROLL, 6);
        x.newRoll();
        Made.closeOne(x, 0, 0);
        Made.closeOne(x, 0, 0);
        x.pass(6);
        due("with the last line of the roll", x.ofReceipt(3, 0), 2);
        due("none left", x.printer(1), 0);
    }

    private static void ticksAreCounted() {
        DUE.part("Then the tick is counted (0 at first)");
        Rolls x = new Rolls();
        due("at first", x.count(0), 0);
        x.set(ReceiptRolls.SPEED, 3);
        Made.closeOne(x, 0, 0);
        Made.closeOne(x, 0, 0);
        x.pass(1);
        due("done in the first", x.ofReceipt(1, 9), 0);
        due("one", x.count(0), 1);
        x.pass(1);
        due("done in the second", x.ofReceipt(2, 9), 1);
        due("two", x.count(0), 2);
    }

    private static void newAtFirst() {
        DUE.part("At first the roll is new");
        Rolls x = new Rolls();
        for (int i = 0; i < 10; i++) {
            Made.closeOne(x, 0, 0);
        }
        x.pass(99);
        due("30 lines", x.printer(2), 30);
        for (int i = 0; i < 4; i++) {
            Made.closeOne(x, 0, 0);
        }
        due("as many as it has", x.pass(99), 10);
        due("40 lines", x.printer(2), 40);
        due("none left", x.printer(1), 0);
        due("one roll", x.printer(4), 1);
        due("none thrown away", x.printer(5), 0);
    }

    /** A receipt with lines 0: head, 1 to 4 and 5 to 8: two items that are alike, 9: void 0, 10: sum, 11: tax 7. */
    private static Rolls printed(int lines) {
        Rolls x = new Rolls();
        x.set(ReceiptRolls.WIDTH, 16);
        x.set(ReceiptRolls.SPEED, 1);
        Due.ring(x, 0, Made.THIRTY, 1, 100, 1);
        Due.ring(x, 0, Made.THIRTY, 1, 100, 1);
        x.strike(0, 0);
        x.close(0, 0);
        if (lines > 0) {
            x.pass(lines);
        }
        return x;
    }

    private static void torn() {
        DUE.part("they have to be printed anew, and so have all lines ahead that tell the same item that was rung");
        // How many lines still stand when lines are torn from line 0, 1, .. 10 on.
        int[] stand = {0, 1, 1, 1, 1, 5, 5, 5, 5, 9, 10};
        for (int lines = 1; lines <= 11; lines++) {
            for (int tear = 1; tear <= lines; tear++) {
                Rolls x = printed(lines);
                due("tear " + tear + " of " + lines, x.tear(tear), lines - stand[lines - tear]);
                due("stand", x.ofReceipt(1, 7), stand[lines - tear]);
                due("spoilt or anew", x.printer(3), lines - stand[lines - tear]);
                due("printed so far", x.printer(2), lines);
                due("lines left", x.linesLeft(), 12 - stand[lines - tear]);
                due("it is printed", x.ofReceipt(1, 0), 1);
            }
            Rolls x = printed(lines);
            due("tear one more", x.tear(lines + 1), NOT_POSSIBLE);
        }
        Rolls none = printed(0);
        due("none was printed", none.tear(1), NOT_POSSIBLE);
        none.pass(12);
        due("it is done", none.tear(1), NOT_POSSIBLE);
    }

    private static void tornByItself() {
        DUE.part("(Each other line is by itself.)");
        Rolls x = new Rolls();
        x.set(ReceiptRolls.SPEED, 1);
        Due.ring(x, 0, "a", 1, 100, 1);
        Due.ring(x, 0, "b", 1, 100, 2);
        Due.ring(x, 0, "c", 1, 100, 2);
        Due.ring(x, 0, "d", 1, 100, 1);
        x.strike(0, 2);
        x.strike(0, 3);
        x.close(0, 0);
        // 0: head, 1 to 4: items, 5 and 6: voids, 7: sum, 8: tax 7, 9: tax 19.
        due("lines", x.ofReceipt(1, 6), 10);
        x.pass(9);
        for (int left = 8; left >= 0; left--) {
            due("line " + left, x.tear(1), 1);
            due("stand", x.ofReceipt(1, 7), left);
        }
        due("nothing stands", x.tear(1), NOT_POSSIBLE);
        due("all anew", x.pass(99), 10);
        due("done", x.ofReceipt(1, 0), 2);
        due("printed so far", x.printer(2), 19);
        due("of these spoilt", x.printer(3), 9);
    }

    private static void ledgerOfNotDone() {
        DUE.part("The ledger knows all closed receipts that are not done");
        Rolls x = new Rolls();
        due("none at first", x.ofReceipt(1, 0), NO_SUCH);
        for (int i = 1; i <= 10; i++) {
            due("close", Made.closeOne(x, 0, 0), i);
            due("known", x.ofReceipt(i, 0), 0);
            due("not known", x.ofReceipt(i + 1, 0), NO_SUCH);
        }
        Made.closeOne(x, 0, 0);
        due("not known", x.ofReceipt(11, 0), NO_SUCH);
        x.pass(1);
        for (int i = 1; i <= 10; i++) {
            due("known", x.ofReceipt(i, 0), i == 1 ? 1 : 0);
        }
        due("how many", x.between(LEAST, MOST, 1), 10);
    }

    private static void ledgerOfDone() {
        DUE.part("and the latest 8 that are done (by when they were)");
        Rolls x = new Rolls();
        x.set(ReceiptRolls.SPEED, 1);
        // Receipts 1 to 9, of which 9 is the first and 1 the last that is done.
        for (int i = 1; i <= 9; i++) {
            Made.closeOne(x, 0, 0);
        }
        for (int i = 9; i >= 2; i--) {
            x.hurry(i, 3);
            x.pass(3);
        }
        due("8 are done", x.count(3), 8);
        due("the first of them", x.ofReceipt(9, 0), 2);
        x.pass(2);
        due("just not yet done", x.ofReceipt(9, 0), 2);
        x.pass(1);
        due("the ninth", x.ofReceipt(1, 0), 2);
        due("the first is forgotten", x.ofReceipt(9, 0), NO_SUCH);
        due("the second is known", x.ofReceipt(8, 0), 2);
        due("how many", x.between(1, 99, 1), 8);
        for (int i = 10; i <= 19; i++) {
            due("close", Made.closeOne(x, 0, 0), i);
        }
        due("18", x.between(1, 99, 1), 18);
        x.pass(2);
        due("18 yet", x.between(1, 99, 1), 18);
        x.pass(1);
        due("one more is done, and one forgotten", x.between(1, 99, 1), 17);
        due("the second is forgotten", x.ofReceipt(8, 0), NO_SUCH);
        x.set(ReceiptRolls.SPEED, 9);
        x.newRoll();
        x.pass(1);
        due("three in a tick", x.between(1, 99, 1), 14);
        due("forgotten", x.ofReceipt(5, 0), NO_SUCH);
        due("known", x.ofReceipt(4, 0), 2);
        x.pass(2);
        due("the latest 8", x.between(12, 19, 1), 8);
        due("no other", x.between(1, 99, 1), 8);
    }

    private static void lengthOfThePad() {
        DUE.part("The pad is a text of at most 80 characters");
        for (int first = 1; first <= 8; first++) {
            Rolls x = new Rolls();
            int length = x.put(Due.packed(letters(first)));
            due("put", length, first);
            while (length + 8 <= 80) {
                due("put", x.put(Due.packed(letters(8))), length + 8);
                length += 8;
            }
            for (int more = 8; more >= 1; more--) {
                if (length + more > 80) {
                    due("beyond 80", x.put(Due.packed(letters(more))), TOO_MANY);
                }
            }
            due("length", x.count(8), length);
            if (length < 80) {
                due("up to 80", x.put(Due.packed(letters(80 - length))), 80);
            }
            due("one more", x.put('a'), TOO_MANY);
            due("wipe", x.wipe(), 80);
        }
    }

    private static void theFault() {
        DUE.part("the fault is the index of the first character that cannot stand at its place");
        Object[][] pads = {{"", 0}, {"A", 0}, {"aA", 1}, {letters(29) + "A", 29}, {letters(30) + "A", 30},
            {letters(30) + "_", 30}, {letters(29) + "_", 29}, {letters(29) + "_a", 29}, {letters(28) + "_", 29},
            {letters(28) + "_A", 29}, {letters(80), 30}, {"a_A", 2}, {"aAA", 1}, {letters(31) + "A", 30},
            {letters(15) + "__" + letters(20), 16}};
        for (Object[] pad : pads) {
            Rolls x = new Rolls();
            Due.put(x, (String) pad[0]);
            due("fault of " + pad[0], x.fault(), (Integer) pad[1]);
        }
    }
}
