/** Counts answers that are not the ones that are due, for all tests of the project. */
final class Checks {
    private int wrong = 0;
    private int asked = 0;

    void due(String call, long got, long want) {
        asked++;
        if (got != want) {
            wrong++;
            System.out.println(call + " answered " + got + ", due is " + want);
        }
    }

    /** A call that is refused and after which nothing is told otherwise. */
    void refused(SignBook book, String call, java.util.function.IntSupplier asked, int want) {
        long before = book.digest();
        due(call, asked.getAsInt(), want);
        due(call + " changed the digest", book.digest(), before);
    }

    void end() {
        System.out.println(asked + " answers, " + wrong + " not as due");
        if (wrong != 0 || asked == 0) {
            System.exit(1);
        }
    }

    /** What lies next to a range, far from it, and in it if only a byte or a char of it were looked at. */
    static int[] beyond(int least, int most) {
        return new int[] {least - 1, most + 1, Integer.MIN_VALUE, Integer.MAX_VALUE, least + 256, least + 65536};
    }

    /** What digest() is of these numbers. */
    static long digestOf(int... told) {
        long h = 1381;
        for (int number : told) {
            h = 31 * h + number;
        }
        return h;
    }

    static void write(SignBook book, String text) {
        book.blank();
        for (int at = 0; at < text.length(); at++) {
            book.letter(text.charAt(at));
        }
    }

    static SignBook bookOf(String text) {
        SignBook book = new SignBook();
        write(book, text);
        if (book.book() < 0) {
            throw new IllegalArgumentException("no book: " + text);
        }
        return book;
    }

    static int typeInto(SignBook book, int slot, String text) {
        write(book, text);
        return book.type(slot);
    }

    static String signs(SignBook book, int slot) {
        StringBuilder text = new StringBuilder();
        for (int at = 0; book.sign(slot, at) >= 0; at++) {
            text.append(book.sign(slot, at));
        }
        return text.toString();
    }

    void slot(SignBook book, int slot, String want) {
        String got = signs(book, slot);
        due("slot " + slot + " is " + got + ", due is " + want, got.equals(want) ? 1 : 0, 1);
    }
}
