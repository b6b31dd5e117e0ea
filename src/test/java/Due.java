/** Compares answers with the ones that are due, and reads and writes the texts of an object. */
final class Due {
    private String part = "";
    private int wrong = 0;
    private int asked = 0;

    /** Names what is tested from here on. */
    void part(String name) {
        part = name;
    }

    void due(String call, long got, long want) {
        asked++;
        if (got != want) {
            wrong++;
            System.out.println(part + ": " + call + " answered " + got + ", due is " + want);
        }
    }

    void due(String call, String got, String want) {
        asked++;
        if (!got.equals(want)) {
            wrong++;
            System.out.println(part + ": " + call + " answered \"" + got + "\", due is \"" + want + "\"");
        }
    }

    int wrong() {
        return wrong;
    }

    /** Ends the program, with exit code 1 if an answer was wrong. */
    void end() {
        System.out.println(wrong == 0 ? "all " + asked + " answers are as due" : wrong + " answers are not as due");
        if (wrong != 0) {
            System.exit(1);
        }
    }

    /** Up to 8 characters as the number that put takes. */
    static long packed(String text) {
        long number = 0;
        for (int i = 0; i < text.length(); i++) {
            number = number << 8 | text.charAt(i);
        }
        return number;
    }

    /** Puts a text of any length, and answers the length of the pad that the last call told. */
    static int put(Rolls x, String text) {
        int length = 0;
        for (int i = 0; i < text.length(); i += 8) {
            length = x.put(packed(text.substring(i, Math.min(i + 8, text.length()))));
        }
        return length;
    }

    static int ring(Rolls x, int till, String name, int many, int price, int tax) {
        put(x, name);
        return x.ring(till, many, price, tax);
    }

    /** The text of a line, all its places; "none" if there is no such line. */
    static String line(Rolls x, int receipt, int line) {
        StringBuilder text = new StringBuilder();
        int sign = x.sign(receipt, line, 0);
        if (sign == ReceiptRolls.NO_SUCH) {
            return "none";
        }
        for (int column = 1; sign >= 0; column++) {
            text.append((char) sign);
            sign = x.sign(receipt, line, column);
        }
        return text.toString();
    }
}
