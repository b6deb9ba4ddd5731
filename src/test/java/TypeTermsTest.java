/** The sentences of part 2 of the terms, at their edges: closed types, what suits, what to hide. */
public final class TypeTermsTest {
    private static final Sentences DOC = Sentences.ofTerms(2);
    private static final int LAST_SLOT = 7;

    public static void main(String[] args) {
        closed();
        slots();
        suitsOfOneClass();
        suitsWithAndAgainst();
        suitsByWhatIsAbove();
        fewest();
        which();
        none();
        DOC.end();
    }

    private static void closed() {
        DOC.term(10, "A TYPE is CLOSED, if there is no PARAMETER in it");
        SignBook x = Checks.bookOf("022;-,-,-");
        for (String open : new String[] {"x", "y", "10x", "1x0", "1y0", "1010x"}) {
            Checks.write(x, open);
            DOC.refused(x, "type(0) of " + open, () -> x.type(0), SignBook.STATE);
        }
        DOC.due("type(0) of 100", Checks.typeInto(x, 0, "100"), 3);
    }

    private static void slots() {
        DOC.term(10, "SLOTS 0 to 7 hold CLOSED TYPES of 15 signs at most");
        SignBook x = Checks.bookOf("01;-,-");
        for (int slot = 0; slot <= LAST_SLOT; slot++) {
            DOC.due("slot " + slot, Checks.typeInto(x, slot, "1".repeat(14 - slot) + "0"), 15 - slot);
        }
        for (int slot = 0; slot <= LAST_SLOT; slot++) {
            DOC.slot(x, slot, "1".repeat(14 - slot) + "0");
        }
        Checks.write(x, "1".repeat(15) + "0");
        DOC.refused(x, "16 signs", () -> x.type(0), SignBook.FULL);
        Checks.write(x, "0");
        DOC.refused(x, "slot -1", () -> x.type(-1), SignBook.UNKNOWN);
        DOC.refused(x, "slot 8", () -> x.type(8), SignBook.UNKNOWN);
    }

    private static void suits(String book, String one, String other, int want) {
        SignBook x = Checks.bookOf(book);
        Checks.typeInto(x, 0, one);
        Checks.typeInto(x, 1, other);
        DOC.due(one + " for " + other + " in " + book, x.suits(0, 1), want);
    }

    private static void suitsOfOneClass() {
        DOC.term(15, "One CLOSED TYPE SUITS for another one");
        suits("00;-,-", "0", "0", 1);
        suits("00;-,-", "0", "1", 0);
        suits("00;-,-", "1", "0", 0);
        suits("02;-,-", "100", "100", 1);
        suits("02;-,-", "100", "0", 0);
        suits("02;-,-", "0", "100", 0);
        // No way: the arguments may be any.
        suits("012;-,-,-", "20" + "10", "2" + "10" + "0", 1);
        suits("012;-,-,-rx", "20" + "10", "2" + "0" + "0", 1);
        suits("012;-,-,-ry", "20" + "10", "2" + "0" + "0", 0);
    }

    /** Class 1 is below class 0; the parameter of class 2 goes no way, with, against, both. */
    private static void suitsWithAndAgainst() {
        DOC.term(15, "One CLOSED TYPE SUITS for another one");
        int[] lesser = {1, 0, 1, 0};
        int[] more = {1, 1, 0, 0};
        for (int way = 0; way < 4; way++) {
            String book = "001;-,<0,-" + "hraf".charAt(way) + "x";
            suits(book, "20", "21", lesser[way]);
            suits(book, "21", "20", more[way]);
            suits(book, "20", "20", 1);
            // Twice: against against is with.
            suits(book, "220", "221", way == 0 ? 1 : 0);
            suits(book, "221", "220", way == 3 ? 0 : 1);
        }
        // In an argument that goes both ways, too, what goes no way may be any.
        String free = "0011;-,<0,-,-fx";
        suits(free, "320", "321", 1);
        suits(free, "3320", "3321", 1);
        suits(free, "320", "330", 0);
        String two = "0022;-,<0,-rxay,-fxfy";
        for (int bits = 0; bits < 16; bits++) {
            String one = "" + (bits & 1) + (bits >> 1 & 1);
            String other = "" + (bits >> 2 & 1) + (bits >> 3 & 1);
            boolean first = (bits & 1) >= (bits >> 2 & 1);
            boolean second = (bits >> 1 & 1) <= (bits >> 3 & 1);
            suits(two, "2" + one, "2" + other, first && second ? 1 : 0);
            suits(two, "3" + one, "3" + other, one.equals(other) ? 1 : 0);
        }
    }

    private static void suitsByWhatIsAbove() {
        DOC.term(15, "else, if what is ABOVE the CLASS of the one");
        String chain = "0000;-,<0,<1,<2";
        for (int one = 0; one < 4; one++) {
            for (int other = 0; other < 4; other++) {
                suits(chain, "" + one, "" + other, one >= other ? 1 : 0);
            }
        }
        String fan = "0000;-,<0,<0,<2";
        suits(fan, "3", "2", 1);
        suits(fan, "3", "1", 0);
        suits(fan, "3", "0", 1);
        suits(fan, "1", "2", 0);
        // Its parameters are put in, turned and left out.
        String turned = "0022;-,<0,-rxry,<2yx";
        suits(turned, "301", "210", 1);
        suits(turned, "301", "201", 0);
        suits(turned, "301", "200", 1);
        String left = "0012;-,<0,-fx,<2y";
        suits(left, "301", "21", 1);
        suits(left, "301", "20", 0);
        suits(left, "311", "21", 1);
        String own = "100;-ax,<01,<1";
        suits(own, "1", "02", 1);
        suits(own, "2", "02", 1);
        suits(own, "1", "001", 0);
        // Above it there are more signs than a slot holds.
        suits("021;-,-rxry,<1xx", "2" + "1010101010100", "10" + "0", 0);
        suits("0212;-,-rxry,<1xx,<0", "2" + "3030303030300", "100", 1);
    }

    private static void hide(String text, int number, int parameter, int way, int many, int which) {
        SignBook x = Checks.bookOf(text);
        String call = "hide(" + number + ", " + parameter + ", " + way + ", ..) of " + text;
        DOC.due(call + ": how many", x.hide(number, parameter, way, 0), many);
        DOC.due(call + ": which", x.hide(number, parameter, way, 1), which);
    }

    private static void fewest() {
        DOC.term(17, "HIDE for a PARAMETER and a WAY");
        hide("2;-rxay", 0, 0, 2, 0, 0);
        hide("2;-rxay", 0, 1, 1, 0, 0);
        hide("2;-rxay", 0, 0, 1, 1, 1);
        hide("2;-rxay", 0, 1, 2, 1, 2);
        hide("1;-rxrx", 0, 0, 1, 2, 3);
        hide("1;-rxrxrx", 0, 0, 1, 3, 7);
        // Of any classes: one there instead of three here, and three of three classes.
        hide("11;-rx,-r0xr0xr0x", 1, 0, 1, 1, 1);
        hide("11;-r1xr1xr1x,-rx", 0, 0, 1, 1, 8);
        hide("1111;-rx,-rx,-rx,<0xr1xr2x", 3, 0, 1, 3, 1 + 8 + 64);
        // None that is hidden yet.
        hide("1;-hxrxhx", 0, 0, 1, 1, 2);
        SignBook x = Checks.bookOf("1;-rxrx");
        x.change(0, 0, 3);
        DOC.due("one is hidden by now", x.hide(0, 0, 1, 1), 2);
        x.change(0, 1, 3);
        DOC.due("both are", x.hide(0, 0, 1, 1), 0);
    }

    private static void which() {
        DOC.term(17, "which, as bits of 3 times the CLASS, and the MEMBER");
        String[] bodies = {"-", "-", "-", "-"};
        for (int number = 0; number < 4; number++) {
            for (int member = 0; member < 3; member++) {
                String[] all = bodies.clone();
                all[number] = "-" + "hx".repeat(member) + "rx";
                hide("1111;" + String.join(",", all), number, 0, 1, 1, 1 << 3 * number + member);
            }
        }
        // Of as many the least: by the bits as a number, not by the class that is asked for.
        hide("11;-r1x,-rx", 0, 0, 1, 1, 1);
        hide("11;-rx,-r0x", 1, 0, 1, 1, 1);
        hide("111;-rxrx,-r0xr0x,-r1xr1x", 2, 0, 1, 2, 3);
        hide("111;-rx,-rx,-r0xr1x", 2, 0, 1, 2, 1 + 8);
    }

    private static void none() {
        DOC.term(17, "none");
        hide("11;-rxrx,<0xrxrx", 1, 0, 1, SignBook.NONE, SignBook.NONE);
        hide("1111;-rx,-rx,-rx,<0xr1xr2xrx", 3, 0, 1, SignBook.NONE, SignBook.NONE);
        hide("111;-axaxax,-axaxax,<0xr1x", 2, 0, 2, SignBook.NONE, SignBook.NONE);
    }
}
