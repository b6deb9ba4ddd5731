/** The sentences of promises 9 to 12, each at its edges: change, type, read, lift. */
public final class DoingEdgesTest {
    private static final Sentences DOC = Sentences.ofPromises(9, 12);
    private static final SignBook NO_BOOK = new SignBook();
    private static final int LAST_SLOT = 7;
    /** Seven and fifteen signs, where class 0 has no parameters and class 1 has two. */
    private static final String SEVEN = "1010100";
    private static final String FIFTEEN = "1" + SEVEN + SEVEN;

    public static void main(String[] args) {
        changeTellsWhatItWas();
        changeIsOfThatMemberAlone();
        changeUnknown();
        changeOutside();
        typeIsRead();
        typeEmptiesThePage();
        typeUnknown();
        typeState();
        typeFull();
        readPutsIn();
        readIntoTheSame();
        readUnknown();
        readState();
        readFull();
        liftPutsIn();
        liftIntoTheSame();
        liftNone();
        liftUnknown();
        liftFull();
        DOC.end();
    }

    private static void changeTellsWhatItWas() {
        DOC.promise(9, "A MEMBER is of another KIND");
        SignBook x = Checks.bookOf("1;-rx");
        int[] ways = {1, 2, 3, 0, 1};
        int was = 0;
        for (int kind : new int[] {0, 4, 3, 2, 1, 0, 3, 3, 4, 4, 0}) {
            DOC.due("change to " + kind, x.change(0, 0, kind), was);
            DOC.due("the kind", x.member(0, 0, 0), kind);
            DOC.due("the way", x.about(0, 3), ways[kind]);
            was = kind;
        }
    }

    private static void changeIsOfThatMemberAlone() {
        DOC.promise(9, "A MEMBER is of another KIND");
        SignBook x = Checks.bookOf("0111;-r0r0r0,-rxrxrx,-rxrxrx,-rxrxrx");
        Checks.typeInto(x, LAST_SLOT, "3210");
        x.see(2, 2, 0, true);
        DOC.due("change(2, 2, 1)", x.change(2, 2, 1), 0);
        for (int number = 0; number < 4; number++) {
            for (int member = 0; member < 3; member++) {
                int want = number == 2 && member == 2 ? 1 : 0;
                DOC.due("kind of " + number + ", " + member, x.member(number, member, 0), want);
            }
        }
        DOC.slot(x, LAST_SLOT, "3210");
        DOC.due("what is seen", x.member(2, 2, 4), 21);
        DOC.due("signs of its type", x.member(2, 2, 3), 1);
    }

    private static void changeUnknown() {
        DOC.promise(9, "UNKNOWN: number, member");
        SignBook x = Checks.bookOf("000;-r0a0f0,-r0a0f0,-");
        for (int wrong : Checks.beyond(0, 2)) {
            for (int kind : new int[] {1, 5}) {
                DOC.refused(x, "number " + wrong, () -> x.change(wrong, 0, kind), SignBook.UNKNOWN);
                DOC.refused(x, "member " + wrong + " of class 0", () -> x.change(0, wrong, kind), SignBook.UNKNOWN);
                DOC.refused(x, "member " + wrong + " of class 1", () -> x.change(1, wrong, kind), SignBook.UNKNOWN);
            }
        }
        SignBook four = Checks.bookOf("0000;-r0a0f0,-r0a0f0,-r0a0f0,-r0a0f0");
        for (int wrong : Checks.beyond(0, 3)) {
            DOC.refused(four, "number " + wrong + " of four", () -> four.change(wrong, 0, 1), SignBook.UNKNOWN);
        }
        DOC.refused(x, "class 2 has none", () -> x.change(2, 0, 1), SignBook.UNKNOWN);
        DOC.refused(x, "member -1 of class 2", () -> x.change(2, -1, 1), SignBook.UNKNOWN);
        DOC.refused(NO_BOOK, "without a book", () -> NO_BOOK.change(0, 0, 5), SignBook.UNKNOWN);
    }

    private static void changeOutside() {
        DOC.promise(9, "OUTSIDE: kind (0 to 4)");
        SignBook x = Checks.bookOf("1;-rxaxfx");
        for (int kind : Checks.beyond(0, 4)) {
            DOC.refused(x, "kind " + kind, () -> x.change(0, 2, kind), SignBook.OUTSIDE);
        }
        DOC.due("kind 0", x.change(0, 2, 0), 2);
        DOC.due("kind 4", x.change(0, 2, 4), 0);
    }

    private static void typeIsRead() {
        DOC.promise(10, "THE PAGE is read as a CLOSED TYPE");
        SignBook x = Checks.bookOf("02;-,-");
        DOC.due("one sign into slot 0", Checks.typeInto(x, 0, "0"), 1);
        DOC.due("15 signs into slot 7", Checks.typeInto(x, LAST_SLOT, FIFTEEN), 15);
        DOC.slot(x, 0, "0");
        DOC.slot(x, LAST_SLOT, FIFTEEN);
        DOC.due("signs in all", x.count(6), 16);
        DOC.due("a shorter one in its place", Checks.typeInto(x, LAST_SLOT, "100"), 3);
        DOC.slot(x, LAST_SLOT, "100");
        DOC.due("a longer one in its place", Checks.typeInto(x, 0, FIFTEEN), 15);
        DOC.slot(x, 0, FIFTEEN);
        DOC.slot(x, 1, "");
    }

    private static void typeEmptiesThePage() {
        DOC.promise(10, "THE PAGE is empty then");
        SignBook x = Checks.bookOf("02;-,-");
        Checks.typeInto(x, 0, FIFTEEN);
        DOC.due("count(8)", x.count(8), 0);
        DOC.due("type() once more", x.type(1), SignBook.STATE);
        DOC.due("letter()", x.letter('0'), 1);
    }

    private static void typeUnknown() {
        DOC.promise(10, "UNKNOWN: slot (0 to 7)");
        SignBook x = Checks.bookOf("02;-,-");
        for (String text : new String[] {"0", "", "x", "1".repeat(16) + "0".repeat(17)}) {
            Checks.write(x, text);
            for (int slot : Checks.beyond(0, LAST_SLOT)) {
                DOC.refused(x, "slot " + slot + " for " + text, () -> x.type(slot), SignBook.UNKNOWN);
            }
        }
        for (int slot : Checks.beyond(0, LAST_SLOT)) {
            DOC.refused(NO_BOOK, "slot " + slot + " without a book", () -> NO_BOOK.type(slot), SignBook.UNKNOWN);
        }
        for (int slot = 0; slot <= LAST_SLOT; slot++) {
            DOC.due("slot " + slot, Checks.typeInto(x, slot, "0"), 1);
        }
    }

    private static void typeState() {
        DOC.promise(10, "STATE: no BOOK, or it is none");
        SignBook x = Checks.bookOf("012;-,-,-");
        Checks.typeInto(x, 0, "10");
        for (String text : new String[] {"", "1", "20", "00", "01", "020", "100", "2000", "3", "30", "x", "1x", "2xy", "0;", "-", "/", ":",
            "0 ", "1".repeat(16), "1".repeat(90), "0".repeat(16), "1".repeat(16) + "x"}) {
            Checks.write(x, text);
            DOC.refused(x, "type(0) of " + text, () -> x.type(0), SignBook.STATE);
            DOC.due("count(8) of " + text, x.count(8), text.length());
            DOC.slot(x, 0, "10");
        }
        SignBook none = new SignBook();
        for (String text : new String[] {"", "0", "0".repeat(16)}) {
            Checks.write(none, text);
            DOC.refused(none, "without a book, type(0) of " + text, () -> none.type(0), SignBook.STATE);
        }
        SignBook full = Checks.bookOf("12;-,-");
        for (String text : new String[] {"0", "00", "100", "0".repeat(90)}) {
            Checks.write(full, text);
            DOC.refused(full, "no class is without parameters: " + text, () -> full.type(0), SignBook.STATE);
        }
    }

    private static void typeFull() {
        DOC.promise(10, "FULL: above 15 signs");
        SignBook x = Checks.bookOf("01;-,-");
        DOC.due("15 signs", Checks.typeInto(x, 0, "1".repeat(14) + "0"), 15);
        for (int many : new int[] {16, 17, 31, 90}) {
            Checks.write(x, "1".repeat(many - 1) + "0");
            DOC.refused(x, many + " signs", () -> x.type(0), SignBook.FULL);
            DOC.refused(x, many + " signs into an empty slot", () -> x.type(LAST_SLOT), SignBook.FULL);
            DOC.due("count(8)", x.count(8), many);
        }
        DOC.slot(x, 0, "1".repeat(14) + "0");
    }

    private static void readPutsIn() {
        DOC.promise(11, "The TYPE of a MEMBER of the CLASS");
        SignBook x = Checks.bookOf("022;-r0,-rxryr0,-r2yxf1xxv2y1yx");
        Checks.typeInto(x, LAST_SLOT, "0");
        DOC.due("a class without parameters", x.read(LAST_SLOT, 0, 0), 1);
        DOC.slot(x, 0, "0");
        Checks.typeInto(x, 0, "1" + "0" + "200");
        DOC.due("x", x.read(0, 0, LAST_SLOT), 1);
        DOC.slot(x, LAST_SLOT, "0");
        DOC.due("y", x.read(0, 1, LAST_SLOT), 3);
        DOC.slot(x, LAST_SLOT, "200");
        DOC.due("neither", x.read(0, 2, LAST_SLOT), 1);
        DOC.slot(x, LAST_SLOT, "0");
        Checks.typeInto(x, 0, "2" + "100" + "0");
        DOC.due("both, turned", x.read(0, 0, 1), 5);
        DOC.slot(x, 1, "2" + "0" + "100");
        DOC.due("one of them twice", x.read(0, 1, 1), 7);
        DOC.slot(x, 1, "1" + "100" + "100");
        DOC.due("in arguments", x.read(0, 2, 1), 7);
        DOC.slot(x, 1, "2" + "0" + "1" + "0" + "100");
        DOC.slot(x, 0, "2" + "100" + "0");
        SignBook first = Checks.bookOf("20;-rxry,-");
        Checks.typeInto(first, 0, "0" + "011" + "1");
        DOC.due("x of class 0", first.read(0, 0, 1), 3);
        DOC.slot(first, 1, "011");
        DOC.due("y of class 0", first.read(0, 1, 1), 1);
        DOC.slot(first, 1, "1");
    }

    private static void readIntoTheSame() {
        DOC.promise(11, "The TYPE of a MEMBER of the CLASS");
        SignBook x = Checks.bookOf("02;-,-r1y1xxrx");
        Checks.typeInto(x, LAST_SLOT, "1" + "100" + "0");
        DOC.due("a longer one", x.read(LAST_SLOT, 0, LAST_SLOT), 9);
        DOC.slot(x, LAST_SLOT, "1" + "0" + "1" + "100" + "100");
        DOC.due("a shorter one", x.read(LAST_SLOT, 1, LAST_SLOT), 1);
        DOC.slot(x, LAST_SLOT, "0");
    }

    private static void readUnknown() {
        DOC.promise(11, "UNKNOWN: from (an empty SLOT, too), member, to");
        SignBook x = Checks.bookOf("001;-a0,-,-rxr22xax");
        Checks.typeInto(x, 0, "20");
        Checks.typeInto(x, 1, "1");
        Checks.typeInto(x, 2, "2".repeat(14) + "0");
        for (int slot : Checks.beyond(0, LAST_SLOT)) {
            DOC.refused(x, "from " + slot, () -> x.read(slot, 0, 0), SignBook.UNKNOWN);
            DOC.refused(x, "to " + slot, () -> x.read(0, 0, slot), SignBook.UNKNOWN);
            DOC.refused(x, "to " + slot + ", a taken one", () -> x.read(0, 2, slot), SignBook.UNKNOWN);
            DOC.refused(x, "to " + slot + ", above 15 signs", () -> x.read(2, 1, slot), SignBook.UNKNOWN);
        }
        for (int from = 3; from <= LAST_SLOT; from++) {
            int empty = from;
            DOC.refused(x, "from " + from + " that is empty", () -> x.read(empty, 0, 0), SignBook.UNKNOWN);
        }
        for (int member : Checks.beyond(0, 2)) {
            DOC.refused(x, "member " + member, () -> x.read(0, member, 3), SignBook.UNKNOWN);
        }
        DOC.refused(x, "a class without members", () -> x.read(1, 0, 3), SignBook.UNKNOWN);
        DOC.refused(NO_BOOK, "without a book", () -> NO_BOOK.read(0, 0, 0), SignBook.UNKNOWN);
        DOC.due("into an empty one", x.read(0, 0, LAST_SLOT), 1);
    }

    private static void readState() {
        DOC.promise(11, "STATE: it does not go WITH by its KIND");
        SignBook x = Checks.bookOf("02;-,-rxf1y1xy");
        Checks.typeInto(x, 0, "1" + "100" + "0");
        Checks.typeInto(x, 1, "1" + SEVEN + SEVEN);
        int[] want = {3, SignBook.STATE, 3, SignBook.STATE, 3};
        for (int kind = 0; kind <= 4; kind++) {
            x.change(1, 0, kind);
            x.change(1, 1, kind);
            int due = want[kind];
            if (due < 0) {
                DOC.refused(x, "kind " + kind, () -> x.read(0, 0, 2), due);
                DOC.refused(x, "kind " + kind + ", and above 15 signs", () -> x.read(1, 1, 2), due);
            } else {
                DOC.due("kind " + kind, x.read(0, 0, 2), due);
            }
        }
        // By its kind alone: a type without parameters adds no way, and is read.
        SignBook y = Checks.bookOf("0;-r0a0");
        Checks.typeInto(y, 0, "0");
        DOC.due("it adds no way", y.read(0, 0, 1), 1);
        DOC.refused(y, "a taken one that adds no way", () -> y.read(0, 1, 1), SignBook.STATE);
    }

    private static void readFull() {
        DOC.promise(11, "FULL: above 15 signs");
        SignBook x = Checks.bookOf("021;-,-r1xxr1x1yyr1x1yx,-r2x");
        Checks.typeInto(x, 0, "1" + SEVEN + "0");
        DOC.due("15 signs", x.read(0, 0, 1), 15);
        DOC.slot(x, 1, FIFTEEN);
        Checks.typeInto(x, 2, "1" + SEVEN + "20");
        DOC.due("13 signs", x.read(2, 1, 3), 13);
        DOC.refused(x, "18 signs", () -> x.read(2, 2, 3), SignBook.FULL);
        DOC.refused(x, "18 signs into an empty slot", () -> x.read(2, 2, LAST_SLOT), SignBook.FULL);
        DOC.refused(x, "18 signs into itself", () -> x.read(2, 2, 2), SignBook.FULL);
        Checks.typeInto(x, 4, "2".repeat(14) + "0");
        DOC.due("15 signs to 15", x.read(4, 0, 5), 15);
        SignBook y = Checks.bookOf("01;-r1" + "1".repeat(14) + "0,-r11xr" + "1".repeat(13) + "x");
        Checks.typeInto(y, 0, "0");
        DOC.refused(y, "16 signs of the member itself", () -> y.read(0, 0, 0), SignBook.FULL);
        Checks.typeInto(y, 1, "1".repeat(13) + "0");
        DOC.due("15 signs, two more than its argument", y.read(1, 0, 2), 15);
        Checks.typeInto(y, 1, "1".repeat(14) + "0");
        DOC.refused(y, "16 signs, two more than its argument", () -> y.read(1, 0, 2), SignBook.FULL);
        Checks.typeInto(y, 1, "110");
        DOC.due("13 signs around two", y.read(1, 1, 2), 15);
        Checks.typeInto(y, 1, "1110");
        DOC.refused(y, "13 signs around three", () -> y.read(1, 1, 2), SignBook.FULL);
    }

    private static void liftPutsIn() {
        DOC.promise(12, "What is ABOVE the CLASS of the TYPE in a SLOT");
        SignBook x = Checks.bookOf("0222;-,<0,<1yx,<1x0");
        Checks.typeInto(x, 0, "2" + "0" + "300");
        DOC.due("turned", x.lift(0, LAST_SLOT), 5);
        DOC.slot(x, LAST_SLOT, "1" + "300" + "0");
        DOC.slot(x, 0, "2" + "0" + "300");
        DOC.due("none of its arguments", x.lift(LAST_SLOT, 0), 1);
        DOC.slot(x, 0, "0");
        Checks.typeInto(x, 0, "3" + "200" + "300");
        DOC.due("a class put in", x.lift(0, 1), 5);
        DOC.slot(x, 1, "1" + "200" + "0");
    }

    private static void liftIntoTheSame() {
        DOC.promise(12, "What is ABOVE the CLASS of the TYPE in a SLOT");
        SignBook x = Checks.bookOf("021;-,-,<1xx");
        Checks.typeInto(x, LAST_SLOT, "2" + "100");
        DOC.due("a longer one", x.lift(LAST_SLOT, LAST_SLOT), 7);
        DOC.slot(x, LAST_SLOT, "1" + "100" + "100");
        SignBook y = Checks.bookOf("10;-,<01");
        Checks.typeInto(y, 0, "1");
        DOC.due("its own class put in", y.lift(0, 0), 2);
        DOC.slot(y, 0, "01");
    }

    private static void liftNone() {
        DOC.promise(12, "NONE: nothing is ABOVE it");
        SignBook x = Checks.bookOf("010;-,-,<0");
        Checks.typeInto(x, 0, "0");
        Checks.typeInto(x, 1, "1".repeat(14) + "0");
        Checks.typeInto(x, 2, "2");
        for (int from = 0; from < 2; from++) {
            int asked = from;
            DOC.refused(x, "lift(" + from + ", 2)", () -> x.lift(asked, 2), SignBook.NONE);
            DOC.refused(x, "lift(" + from + ", 7)", () -> x.lift(asked, LAST_SLOT), SignBook.NONE);
            DOC.refused(x, "lift(" + from + ", " + from + ")", () -> x.lift(asked, asked), SignBook.NONE);
        }
        DOC.due("class 0 is above class 2", x.lift(2, 2), 1);
        DOC.refused(x, "once more", () -> x.lift(2, 2), SignBook.NONE);
    }

    private static void liftUnknown() {
        DOC.promise(12, "UNKNOWN: from (an empty SLOT, too), to");
        SignBook x = Checks.bookOf("0021;-,<0,-,<2x0");
        Checks.typeInto(x, 0, "1");
        Checks.typeInto(x, 1, "0");
        Checks.typeInto(x, 2, "3".repeat(14) + "0");
        for (int slot : Checks.beyond(0, LAST_SLOT)) {
            DOC.refused(x, "from " + slot, () -> x.lift(slot, 0), SignBook.UNKNOWN);
            DOC.refused(x, "to " + slot + ", above 15 signs", () -> x.lift(2, slot), SignBook.UNKNOWN);
            DOC.refused(x, "to " + slot, () -> x.lift(0, slot), SignBook.UNKNOWN);
            DOC.refused(x, "to " + slot + ", and nothing is above", () -> x.lift(1, slot), SignBook.UNKNOWN);
        }
        for (int from = 3; from <= LAST_SLOT; from++) {
            int empty = from;
            DOC.refused(x, "from " + from + " that is empty", () -> x.lift(empty, 0), SignBook.UNKNOWN);
        }
        DOC.refused(NO_BOOK, "without a book", () -> NO_BOOK.lift(0, 0), SignBook.UNKNOWN);
        DOC.due("into an empty one", x.lift(0, LAST_SLOT), 1);
    }

    private static void liftFull() {
        DOC.promise(12, "FULL: above 15 signs");
        SignBook x = Checks.bookOf("0211;-,-,<1xx,<1x0");
        Checks.typeInto(x, 0, "2" + SEVEN);
        DOC.due("15 signs", x.lift(0, 1), 15);
        DOC.slot(x, 1, FIFTEEN);
        Checks.typeInto(x, 0, "2" + "2" + SEVEN);
        DOC.refused(x, "17 signs", () -> x.lift(0, 1), SignBook.FULL);
        DOC.refused(x, "17 signs into itself", () -> x.lift(0, 0), SignBook.FULL);
        DOC.refused(x, "17 signs into an empty slot", () -> x.lift(0, LAST_SLOT), SignBook.FULL);
        Checks.typeInto(x, 0, "3".repeat(13) + "0");
        DOC.due("14 signs to 15", x.lift(0, 2), 15);
        Checks.typeInto(x, 0, "3".repeat(14) + "0");
        DOC.refused(x, "15 signs to 16", () -> x.lift(0, 2), SignBook.FULL);
    }
}
