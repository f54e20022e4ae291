/** What the tests share: counting of wrong answers, and texts brought onto a tape. */
final class Checks {
    private static int checked = 0;
    private static int wrong = 0;

    private Checks() { }

    static void is(String what, long got, long want) {
        checked++;
        if (got != want) {
            wrong++;
            System.out.println(what + " answered " + got + ", due is " + want);
        }
    }

    static void holds(String what, boolean holds) {
        is(what, holds ? 1 : 0, 1);
    }

    /** Ends the test program: exit code 1 if an answer was wrong. */
    static void close(String name) {
        System.out.println(name + ": " + checked + " checks, " + wrong + " wrong");
        System.exit(wrong == 0 && checked > 0 ? 0 : 1);
    }

    static int[] twentyBytes(String text, int from) {
        int[] numbers = new int[5];
        for (int i = 0; i < 20; i++) {
            int sign = from + i < text.length() ? text.charAt(from + i) : ' ';
            numbers[i / 4] = numbers[i / 4] << 8 | sign & 255;
        }
        return numbers;
    }

    /** Puts a text behind an empty tape; it has just the text's bytes then. */
    static void feed(LehrBelt x, String text) {
        for (int from = 0; from < text.length(); from += 20) {
            int[] n = twentyBytes(text, from);
            x.feed(n[0], n[1], n[2], n[3], n[4]);
        }
        x.end(text.length());
    }

    static int tell(LehrBelt x, String text) {
        feed(x, text);
        return x.lehr();
    }

    static LehrBelt told(String text) {
        LehrBelt x = new LehrBelt();
        tell(x, text);
        return x;
    }

    /** A slot's row of numbers of four bytes. */
    static void write(LehrBelt x, int slot, long... numbers) {
        x.row(slot, 2, numbers.length);
        for (int i = 0; i < numbers.length; i++) {
            x.write(slot, i, numbers[i]);
        }
    }
}
