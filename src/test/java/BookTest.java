/** Promises 1 to 8: a new object, the page, the book and what it tells. */
public final class BookTest {
    private static final Checks CHECKS = new Checks();

    public static void main(String[] args) {
        newObject();
        letters();
        blank();
        faults();
        booksThatAreNone();
        anotherBook();
        anotherBookOfLess();
        about();
        members();
        as();
        CHECKS.end();
    }

    private static void newObject() {
        SignBook x = new SignBook();
        for (int what = 0; what <= 10; what++) {
            CHECKS.due("1: count(" + what + ") of a new object", x.count(what), 0);
        }
        CHECKS.due("1: about(0, 0)", x.about(0, 0), SignBook.UNKNOWN);
        CHECKS.due("1: member(0, 0, 0)", x.member(0, 0, 0), SignBook.UNKNOWN);
        CHECKS.due("1: rounds()", x.rounds(), SignBook.STATE);
        CHECKS.due("1: image()", x.image(), SignBook.STATE);
        CHECKS.due("1: restore()", x.restore(), SignBook.STATE);
        CHECKS.due("1: drawn(1, 1, 0)", x.drawn(1, 1, 0), SignBook.STATE);
        CHECKS.due("1: suits(0, 0)", x.suits(0, 0), SignBook.UNKNOWN);
        x.letter('0');
        CHECKS.due("1: type(0)", x.type(0), SignBook.STATE);
    }

    private static void letters() {
        SignBook x = new SignBook();
        CHECKS.due("2: letter(1)", x.letter(1), 1);
        CHECKS.due("2: letter(126)", x.letter(126), 2);
        for (int code : new int[] {0, -1, 127, Integer.MIN_VALUE, Integer.MAX_VALUE}) {
            CHECKS.refused(x, "2: letter(" + code + ")", () -> x.letter(code), SignBook.OUTSIDE);
        }
        for (int many = 3; many <= 90; many++) {
            CHECKS.due("2: letter " + many, x.letter('x'), many);
        }
        CHECKS.refused(x, "2: letter 91", () -> x.letter('x'), SignBook.FULL);
        CHECKS.refused(x, "2: letter(0) on a full page", () -> x.letter(0), SignBook.OUTSIDE);
    }

    private static void blank() {
        SignBook x = new SignBook();
        CHECKS.due("3: blank() of nothing", x.blank(), 0);
        Checks.write(x, "01;-");
        CHECKS.due("3: blank()", x.blank(), 4);
        CHECKS.due("3: count(8)", x.count(8), 0);
        CHECKS.due("3: letter", x.letter('0'), 1);
    }

    private static void fault(String text, int place) {
        SignBook x = new SignBook();
        Checks.write(x, text);
        long before = x.digest();
        CHECKS.due("4: fault() of " + text, x.fault(), place);
        CHECKS.due("4: fault() of " + text + " changed the digest", x.digest(), before);
    }

    private static void faults() {
        fault("", 0);
        for (String whole : new String[] {"0;-", "0012;-,<0r1,-rxa20,<2yf2xv3xy", "12;-rxax,<0xh1xy", "01;-,<0",
            "012;-,<0,<1x", "0021;-,-,-,<2x0", "0;-r0a0f0", "1;-r00000000x", "20;<", "10;-,<01"}) {
            fault(whole, whole.length());
        }
        for (String begun : new String[] {"0", "012", "0;", "01;-", "01;-,", "01;-,<", "1;-r", "2;-r0", "2;-r0x", "12;-,<0"}) {
            fault(begun, begun.length());
        }
        fault(";", 0);
        fault("3;-", 0);
        fault("x", 0);
        fault("03;-", 1);
        fault("00000", 4);
        fault("0000;-,-,-,-,", 12);
        fault("0,", 1);
        fault("0;r0", 2);
        fault("0;<0", 3);
        fault("01;-,<1x", 6);
        fault("01;-,<x", 6);
        fault("0;-x", 3);
        fault("0;-rx", 4);
        fault("1;-ry", 4);
        fault("1;-r1x", 4);
        fault("2;-r0yxx", 7);
        fault("0;-r0r0r0r0", 9);
        fault("0;--", 3);
        fault("0;-;", 3);
        fault("0;-,", 3);
        fault("01;-;", 4);
        fault("11;-,<0y", 7);
        fault("11;-,<00x", 7);
        fault("10;-,<0x", 7);
        fault("10;-,<010", 8);
        fault("10;-,<01r1", 10);
        fault("12;-,<0xx", 8);
        fault("0;-R0", 3);
        fault("0;-g0", 3);
        fault("0;-r:", 4);
        fault("0;-r/", 4);
        SignBook x = new SignBook();
        Checks.write(x, "1;-r" + "0".repeat(85) + "x");
        for (int time = 0; time < 5; time++) {
            CHECKS.due("4: fault() once more", x.fault(), 90);
        }
        CHECKS.due("4: book() after that", x.book(), 1);
    }

    private static void none(String text) {
        SignBook x = Checks.bookOf("01;-,-rx");
        Checks.write(x, text);
        CHECKS.refused(x, "5: book() of " + text, x::book, SignBook.STATE);
        CHECKS.due("5: the page of " + text, x.count(8), text.length());
    }

    private static void booksThatAreNone() {
        for (String text : new String[] {"", "0", "0;", "01;-", "01;-,", "0;-r", "1;-r0", "1;-r0xx", "01;-,<", "10;-,<0",
            "0;-,-", "0;-r0r0r0r0", "0;<0", "00000;-,-,-,-,-", "0;-rx", "3;-"}) {
            none(text);
        }
    }

    private static void anotherBook() {
        SignBook x = Checks.bookOf("01;-,-rx");
        CHECKS.due("5: count(9)", x.count(9), 1);
        CHECKS.due("5: the page is empty", x.count(8), 0);
        CHECKS.due("5: type(0)", Checks.typeInto(x, 0, "10"), 2);
        x.see(1, 0, 0, true);
        x.change(1, 0, 1);
        x.hide(1, 0, 1, 0);
        CHECKS.due("5: image()", x.image(), 1);
        Checks.write(x, "01;-,-rx");
        CHECKS.due("5: book()", x.book(), 2);
        CHECKS.due("5: kinds are as written", x.member(1, 0, 0), 0);
        CHECKS.due("5: ways are as written", x.about(1, 3), 1);
        CHECKS.due("5: slots are gone", x.count(5), 0);
        CHECKS.due("5: seen is gone", x.count(7), 0);
        CHECKS.due("5: the image is gone", x.restore(), SignBook.STATE);
        CHECKS.due("5: count(9)", x.count(9), 2);
        CHECKS.due("5: count(10)", x.count(10), 1);
        Checks.write(x, "0012;-,-,-,-");
        CHECKS.due("5: book() of four", x.book(), 4);
        Checks.write(x, "2;-");
        CHECKS.due("5: book() of one", x.book(), 1);
        CHECKS.due("5: no members are left", x.count(2), 0);
        CHECKS.due("5: no class 1 is left", x.about(1, 0), SignBook.UNKNOWN);
        CHECKS.due("5: no parameter of class 3 is left", x.hide(3, 0, 1, 0), SignBook.UNKNOWN);
    }

    /** Nothing of a book, or of a page that was none, is left in the next one. */
    private static void anotherBookOfLess() {
        SignBook x = Checks.bookOf("0122;-r0,<0r2xxr1xrx,<1xr0,<2xyrxayfx");
        Checks.write(x, "0122;-,<0r2xxr1xrx,<1xr0,<2xyrxayfx,");
        CHECKS.due("5: it is none", x.book(), SignBook.STATE);
        Checks.write(x, "0122;-,-,-r0,-");
        CHECKS.due("5: book()", x.book(), 4);
        for (int number = 0; number < 4; number++) {
            CHECKS.due("5: nothing is above " + number, x.about(number, 1), SignBook.NONE);
            CHECKS.due("5: members of " + number, x.about(number, 2), number == 2 ? 1 : 0);
        }
        CHECKS.due("5: all go no way", x.count(3), 5);
        CHECKS.due("5: rounds()", x.rounds(), 0);
        CHECKS.due("5: signs", x.member(2, 0, 3), 1);
        CHECKS.due("5: hide()", x.hide(1, 0, 1, 1), 0);
    }

    private static void tells(SignBook x, int number, int... want) {
        for (int what = 0; what < want.length; what++) {
            CHECKS.due("6: about(" + number + ", " + what + ")", x.about(number, what), want[what]);
        }
    }

    private static void about() {
        SignBook x = Checks.bookOf("0012;-,<0r1,-rxa20,<2yf2xv3xy");
        tells(x, 0, 0, -1, 0, -1, -1, 0);
        tells(x, 1, 0, 0, 1, -1, -1, 1);
        tells(x, 2, 1, -1, 2, 1, -1, 0);
        tells(x, 3, 2, 2, 2, 3, 1, 1);
        tells(Checks.bookOf("0000;-,<0,<1,<2"), 3, 0, 2, 0, -1, -1, 3);
        tells(Checks.bookOf("0000;-,<0,-,<2"), 3, 0, 2, 0, -1, -1, 1);
        // Against through against is with; below a class that is told later in the book, too.
        tells(Checks.bookOf("11;-a1x,-ax"), 0, 1, -1, 1, 1, -1, 0);
        tells(Checks.bookOf("11;-r1x,-ax"), 0, 1, -1, 1, 2, -1, 0);
        tells(Checks.bookOf("11;-r1x,-fx"), 0, 1, -1, 1, 3, -1, 0);
        tells(Checks.bookOf("11;-f1x,-hx"), 0, 1, -1, 1, 0, -1, 0);
        tells(Checks.bookOf("11;-h1x,-fx"), 0, 1, -1, 1, 0, -1, 0);
        tells(Checks.bookOf("11;-f1x,-vx"), 0, 1, -1, 1, 3, -1, 0);
        tells(Checks.bookOf("11;-v1x,-ax"), 0, 1, -1, 1, 2, -1, 0);
        tells(Checks.bookOf("11;-ax,<0x"), 1, 1, 0, 0, 2, -1, 1);
        tells(Checks.bookOf("12;-rx,<0y"), 1, 2, 0, 0, 0, 1, 1);
        tells(Checks.bookOf("2;-rxa0yx"), 0, 2, -1, 2, 1, 2, 0);
        tells(Checks.bookOf("1;-a0x"), 0, 1, -1, 1, 0, -1, 0);
        for (int number : new int[] {-1, 4, Integer.MIN_VALUE, Integer.MAX_VALUE}) {
            CHECKS.refused(x, "6: about(" + number + ", 9)", () -> x.about(number, 9), SignBook.UNKNOWN);
        }
        for (int what : new int[] {-1, 6, Integer.MIN_VALUE, Integer.MAX_VALUE}) {
            CHECKS.refused(x, "6: about(0, " + what + ")", () -> x.about(0, what), SignBook.OUTSIDE);
        }
    }

    private static void tellsOf(SignBook x, int number, int member, int... want) {
        for (int what = 0; what < want.length; what++) {
            CHECKS.due("7: member(" + number + ", " + member + ", " + what + ")", x.member(number, member, what), want[what]);
        }
    }

    private static void members() {
        SignBook x = Checks.bookOf("0012;-,<0r1,-rxa20,<2yf2xv3xy");
        tellsOf(x, 1, 0, 0, -1, -1, 1, 31, 0);
        tellsOf(x, 2, 0, 0, 1, -1, 1, 31, 0);
        tellsOf(x, 2, 1, 1, 0, -1, 2, 31, 0);
        tellsOf(x, 3, 0, 2, 3, 0, 2, 31, 0);
        // What it adds is told even if another member adds it, too.
        tellsOf(x, 3, 1, 4, 3, 1, 3, 31, 0);
        SignBook y = Checks.bookOf("02;-,-rxaxh1xy");
        tellsOf(y, 1, 0, 0, 1, 0, 1);
        tellsOf(y, 1, 1, 1, 2, 0, 1);
        tellsOf(y, 1, 2, 3, 0, 0, 3);
        // A member of a kind that is changed adds by its kind now.
        y.change(1, 2, 1);
        tellsOf(y, 1, 2, 1, 3, 0, 3);
        String longest = "1;-r" + "0".repeat(85) + "x";
        tellsOf(Checks.bookOf(longest), 0, 0, 0, 0, -1, 86);
        for (int wrong : new int[] {-1, 4, Integer.MIN_VALUE, Integer.MAX_VALUE}) {
            CHECKS.refused(x, "7: number " + wrong, () -> x.member(wrong, 0, 9), SignBook.UNKNOWN);
            CHECKS.refused(x, "7: member " + wrong, () -> x.member(3, wrong, 9), SignBook.UNKNOWN);
        }
        CHECKS.refused(x, "7: member 2 of two", () -> x.member(3, 2, 0), SignBook.UNKNOWN);
        CHECKS.refused(x, "7: member 0 of none", () -> x.member(0, 0, 0), SignBook.UNKNOWN);
        for (int what : new int[] {-1, 6, Integer.MIN_VALUE, Integer.MAX_VALUE}) {
            CHECKS.refused(x, "7: what " + what, () -> x.member(3, 1, what), SignBook.OUTSIDE);
        }
    }

    private static void as() {
        SignBook x = Checks.bookOf("00;-r0a0f0,-h0v0");
        int[][] casts = {{1, 0, 0, 0, 0}, {1, 1, 0, 0, 0}, {1, 0, 1, 0, 0}, {1, 0, 0, 1, 0}, {1, 0, 1, 0, 1}};
        for (int is = 0; is <= 4; is++) {
            int number = is / 3;
            int member = is % 3;
            for (int kind = 0; kind <= 4; kind++) {
                int want = casts[is][kind] == 1 ? member : SignBook.NONE;
                CHECKS.due("8: as(" + number + ", " + member + ", " + kind + ")", x.as(number, member, kind), want);
            }
        }
        x.change(0, 2, 3);
        CHECKS.due("8: as of a kind that is changed", x.as(0, 2, 3), 2);
        for (int wrong : new int[] {-1, 3, Integer.MIN_VALUE, Integer.MAX_VALUE}) {
            CHECKS.refused(x, "8: number " + wrong, () -> x.as(wrong, 0, 9), SignBook.UNKNOWN);
            CHECKS.refused(x, "8: member " + wrong, () -> x.as(0, wrong, 9), SignBook.UNKNOWN);
        }
        for (int kind : new int[] {-1, 5, Integer.MIN_VALUE, Integer.MAX_VALUE}) {
            CHECKS.refused(x, "8: kind " + kind, () -> x.as(0, 0, kind), SignBook.OUTSIDE);
        }
    }
}
