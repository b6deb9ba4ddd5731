/** The sentences of promises 13 to 17, each at its edges: rounds, sign, suits, stores, hide. */
public final class WouldEdgesTest {
    private static final Sentences DOC = Sentences.ofPromises(13, 17);
    private static final SignBook NO_BOOK = new SignBook();
    private static final int LAST_SLOT = 7;
    private static final int MOST_HIDES = 12;
    /** Seven and fifteen signs, where class 0 has no parameters and class 1 has two. */
    private static final String SEVEN = "1010100";
    private static final String FIFTEEN = "1" + SEVEN + SEVEN;

    public static void main(String[] args) {
        rounds();
        roundsState();
        signFromFirstToLast();
        signUnknown();
        suits();
        suitsOfLongest();
        suitsUnknown();
        stores();
        storesNone();
        storesUnknown();
        storesFull();
        hideHowManyAndWhich();
        hideNone();
        hideUnknown();
        hideOutside();
        hideState();
        DOC.end();
    }

    private static void rounds() {
        DOC.promise(13, "ROUNDS");
        String[] texts = {"0;-", "0;-r0a0f0", "2;-", "2;-hxhy", "1;-r0x", "2;-rxay", "11;-r1x,-rx", "1111;-r1x,-r2x,-r3x,-rxa0x"};
        int[] want = {0, 0, 0, 0, 0, 1, 2, 8};
        for (int at = 0; at < texts.length; at++) {
            SignBook x = Checks.bookOf(texts[at]);
            long before = x.digest();
            DOC.due("rounds() of " + texts[at], x.rounds(), want[at]);
            DOC.due("rounds() of " + texts[at] + " changed the digest", x.digest(), before);
        }
        SignBook x = Checks.bookOf("11;-r1x,-rx");
        x.image();
        x.change(1, 0, 3);
        DOC.due("all are hidden, or go no way", x.rounds(), 0);
        x.restore();
        DOC.due("behind restore()", x.rounds(), 2);
    }

    private static void roundsState() {
        DOC.promise(13, "STATE: no BOOK");
        SignBook x = new SignBook();
        DOC.refused(x, "a new object", x::rounds, SignBook.STATE);
        Checks.write(x, "0;-");
        DOC.refused(x, "it is not read yet", x::rounds, SignBook.STATE);
        x.letter('z');
        x.book();
        DOC.refused(x, "it was none", x::rounds, SignBook.STATE);
        Checks.write(x, "0;-");
        x.book();
        DOC.due("it is read", x.rounds(), 0);
    }

    private static void signFromFirstToLast() {
        DOC.promise(14, "The so-manieth sign");
        SignBook x = Checks.bookOf("0021;-,-,-,-");
        String type = "2" + "3333330" + "2" + "1" + "2" + "31" + "30";
        DOC.due("15 signs", Checks.typeInto(x, LAST_SLOT, type), 15);
        for (int at = 0; at < 15; at++) {
            DOC.due("sign(7, " + at + ")", x.sign(LAST_SLOT, at), type.charAt(at) - '0');
        }
        Checks.typeInto(x, 0, "1");
        DOC.due("sign(0, 0) of one sign", x.sign(0, 0), 1);
    }

    /** Sign 15 of a slot is none, not the first one of the next slot; nor is -1 the last one of the slot ahead. */
    private static void signUnknown() {
        DOC.promise(14, "UNKNOWN: slot (an empty one, too), number");
        SignBook x = Checks.bookOf("01;-,-");
        Checks.typeInto(x, 0, "1".repeat(14) + "0");
        Checks.typeInto(x, 1, "1".repeat(14) + "0");
        Checks.typeInto(x, 2, "0");
        for (int number : Checks.beyond(0, 14)) {
            DOC.refused(x, "sign(0, " + number + ")", () -> x.sign(0, number), SignBook.UNKNOWN);
            DOC.refused(x, "sign(1, " + number + ")", () -> x.sign(1, number), SignBook.UNKNOWN);
        }
        for (int number : Checks.beyond(0, 0)) {
            DOC.refused(x, "sign(2, " + number + ")", () -> x.sign(2, number), SignBook.UNKNOWN);
        }
        for (int slot : Checks.beyond(0, LAST_SLOT)) {
            DOC.refused(x, "slot " + slot, () -> x.sign(slot, 0), SignBook.UNKNOWN);
        }
        for (int slot = 3; slot <= LAST_SLOT; slot++) {
            int empty = slot;
            DOC.refused(x, "slot " + slot + " that is empty", () -> x.sign(empty, 0), SignBook.UNKNOWN);
        }
        Checks.typeInto(x, 0, "10");
        DOC.refused(x, "behind one that is shorter than what was there", () -> x.sign(0, 2), SignBook.UNKNOWN);
        DOC.refused(NO_BOOK, "without a book", () -> NO_BOOK.sign(0, 0), SignBook.UNKNOWN);
    }

    private static void suits(SignBook x, String one, String other, int want) {
        Checks.typeInto(x, 0, one);
        Checks.typeInto(x, LAST_SLOT, other);
        long before = x.digest();
        DOC.due(one + " for " + other, x.suits(0, LAST_SLOT), want);
        DOC.due("suits() changed the digest", x.digest(), before);
    }

    private static void suits() {
        DOC.promise(15, "Whether the TYPE in the one SLOT SUITS");
        SignBook x = Checks.bookOf("001;-,<0,-rx");
        suits(x, "1", "0", 1);
        suits(x, "0", "1", 0);
        suits(x, "0", "0", 1);
        suits(x, "20", "0", 0);
        suits(x, "0", "20", 0);
        suits(x, "21", "20", 1);
        suits(x, "20", "21", 0);
        Checks.typeInto(x, 3, "21");
        DOC.due("a slot for itself", x.suits(3, 3), 1);
        x.change(2, 0, 1);
        suits(x, "21", "20", 0);
        suits(x, "20", "21", 1);
    }

    private static void suitsOfLongest() {
        DOC.promise(15, "Whether the TYPE in the one SLOT SUITS");
        SignBook x = Checks.bookOf("0201;-,-rxry,<0,-ax");
        suits(x, FIFTEEN, FIFTEEN, 1);
        suits(x, "1" + SEVEN + "1010102", FIFTEEN, 1);
        suits(x, FIFTEEN, "1" + SEVEN + "1010102", 0);
        String fourteen = "3".repeat(14);
        suits(x, fourteen + "2", fourteen + "0", 1);
        suits(x, fourteen + "0", fourteen + "2", 0);
        suits(x, "3" + fourteen.substring(2) + "0", "3" + fourteen.substring(2) + "2", 1);
        // As deep, where the parameter goes both ways.
        SignBook alike = Checks.bookOf("001;-,<0,-fx");
        String twos = "2".repeat(14);
        suits(alike, twos + "0", twos + "0", 1);
        suits(alike, twos + "1", twos + "0", 0);
        suits(alike, twos + "0", twos + "1", 0);
        // Each step up puts in a class, and so goes on as deep as the other one is.
        SignBook up = Checks.bookOf("10;-rx,<01");
        suits(up, "1", "0".repeat(14) + "1", 1);
        SignBook down = Checks.bookOf("100;-rx,<01,-");
        suits(down, "1", "0".repeat(14) + "2", 0);
    }

    private static void suitsUnknown() {
        DOC.promise(15, "UNKNOWN: one, other (empty ones, too)");
        SignBook x = Checks.bookOf("0;-");
        Checks.typeInto(x, 0, "0");
        for (int slot : Checks.beyond(0, LAST_SLOT)) {
            DOC.refused(x, "one " + slot, () -> x.suits(slot, 0), SignBook.UNKNOWN);
            DOC.refused(x, "other " + slot, () -> x.suits(0, slot), SignBook.UNKNOWN);
        }
        for (int slot = 1; slot <= LAST_SLOT; slot++) {
            int empty = slot;
            DOC.refused(x, "one " + slot + " that is empty", () -> x.suits(empty, 0), SignBook.UNKNOWN);
            DOC.refused(x, "other " + slot + " that is empty", () -> x.suits(0, empty), SignBook.UNKNOWN);
            DOC.refused(x, "both are empty", () -> x.suits(empty, empty), SignBook.UNKNOWN);
        }
        DOC.refused(NO_BOOK, "without a book", () -> NO_BOOK.suits(0, 0), SignBook.UNKNOWN);
    }

    private static void stores() {
        DOC.promise(16, "Whether the TYPE in a SLOT can be stored");
        SignBook x = Checks.bookOf("0022;-,<0,-axayf2yx,-a1");
        Checks.typeInto(x, 0, "0");
        Checks.typeInto(x, 1, "1");
        Checks.typeInto(x, 2, "2" + "1" + "0");
        Checks.typeInto(x, 3, "2" + "0" + "1");
        Checks.typeInto(x, LAST_SLOT, "300");
        int[][] want = {{0, 2, 0, 0}, {1, 2, 0, 1}, {0, 2, 1, 1}, {1, 2, 1, 1}, {3, 2, 2, 1}, {2, 2, 2, 0}, {2, 2, 1, 0},
            {0, LAST_SLOT, 0, 0}, {1, LAST_SLOT, 0, 1}, {LAST_SLOT, LAST_SLOT, 0, 0}};
        for (int[] call : want) {
            long before = x.digest();
            DOC.due("stores(" + call[0] + ", " + call[1] + ", " + call[2] + ")", x.stores(call[0], call[1], call[2]), call[3]);
            DOC.due("stores() changed the digest", x.digest(), before);
        }
    }

    private static void storesNone() {
        DOC.promise(16, "NONE: the MEMBER does not go AGAINST by its KIND");
        SignBook x = Checks.bookOf("01;-r0,-rxr111x");
        Checks.typeInto(x, 0, "0");
        Checks.typeInto(x, 1, "10");
        Checks.typeInto(x, 2, "1".repeat(14) + "0");
        int[] want = {SignBook.NONE, 1, 1, SignBook.NONE, SignBook.NONE};
        for (int kind = 0; kind <= 4; kind++) {
            x.change(0, 0, kind);
            x.change(1, 0, kind);
            x.change(1, 1, kind);
            int due = want[kind];
            DOC.refused(x, "kind " + kind, () -> x.stores(0, 1, 0), due);
            DOC.refused(x, "kind " + kind + ", a class without parameters", () -> x.stores(0, 0, 0), due);
            if (due == SignBook.NONE) {
                DOC.refused(x, "kind " + kind + ", and above 15 signs", () -> x.stores(0, 2, 1), due);
            }
        }
    }

    private static void storesUnknown() {
        DOC.promise(16, "UNKNOWN: what, in (empty ones, too), member");
        SignBook x = Checks.bookOf("001;-a0,-,-axrxa22x");
        Checks.typeInto(x, 0, "0");
        Checks.typeInto(x, 1, "20");
        Checks.typeInto(x, 2, "2".repeat(14) + "0");
        for (int member = 0; member < 3; member++) {
            int asked = member;
            for (int slot : Checks.beyond(0, LAST_SLOT)) {
                DOC.refused(x, "what " + slot, () -> x.stores(slot, 1, asked), SignBook.UNKNOWN);
                DOC.refused(x, "what " + slot + " in 15 signs", () -> x.stores(slot, 2, asked), SignBook.UNKNOWN);
                DOC.refused(x, "in " + slot, () -> x.stores(0, slot, asked), SignBook.UNKNOWN);
            }
            for (int slot = 3; slot <= LAST_SLOT; slot++) {
                int empty = slot;
                DOC.refused(x, "what " + slot + " that is empty", () -> x.stores(empty, 2, asked), SignBook.UNKNOWN);
                DOC.refused(x, "in " + slot + " that is empty", () -> x.stores(0, empty, asked), SignBook.UNKNOWN);
            }
        }
        for (int member : Checks.beyond(0, 2)) {
            DOC.refused(x, "member " + member, () -> x.stores(0, 1, member), SignBook.UNKNOWN);
        }
        Checks.typeInto(x, 3, "1");
        DOC.refused(x, "a class without members", () -> x.stores(0, 3, 0), SignBook.UNKNOWN);
        DOC.refused(NO_BOOK, "without a book", () -> NO_BOOK.stores(0, 0, 0), SignBook.UNKNOWN);
    }

    private static void storesFull() {
        DOC.promise(16, "FULL: above 15 signs");
        SignBook x = Checks.bookOf("021;-a" + "2".repeat(15) + "0,-a1xxf1x1xx,-a2xa22x");
        Checks.typeInto(x, 0, "0");
        Checks.typeInto(x, 1, "1" + SEVEN + "0");
        Checks.typeInto(x, 2, FIFTEEN);
        DOC.due("15 signs of 15", x.stores(2, 1, 0), 1);
        DOC.due("15 signs of one", x.stores(0, 1, 0), 0);
        DOC.refused(x, "23 signs", () -> x.stores(2, 1, 1), SignBook.FULL);
        DOC.refused(x, "16 signs of the member itself", () -> x.stores(0, 0, 0), SignBook.FULL);
        Checks.typeInto(x, 3, "2".repeat(14) + "0");
        DOC.due("15 signs by one deeper", x.stores(3, 3, 0), 1);
        DOC.refused(x, "16 signs by two deeper", () -> x.stores(3, 3, 1), SignBook.FULL);
    }

    /** Asks both; of the digest nothing but its last number, how often it was done, is another one. */
    private static void hide(String text, int number, int parameter, int way, int many, int which) {
        SignBook x = Checks.bookOf(text);
        long before = x.digest();
        String call = "hide(" + number + ", " + parameter + ", " + way + ", ..) of " + text;
        DOC.due(call + ": how many", x.hide(number, parameter, way, 0), many);
        DOC.due(call + ": which", x.hide(number, parameter, way, 1), which);
        DOC.due(call + ": the digest", x.digest(), before + 2);
    }

    private static void hideHowManyAndWhich() {
        DOC.promise(17, "HIDE: what = 0 how many, 1 which");
        hide("1;-", 0, 0, 1, 0, 0);
        hide("1;-rx", 0, 0, 2, 0, 0);
        hide("1;-rx", 0, 0, 1, 1, 1);
        hide("2222;-rxryrx,-rxryrx,-rxryrx,-hyhyry", 3, 1, 1, 1, 2048);
        hide("1;-axfxvx", 0, 0, 1, 2, 2 + 4);
        hide("1;-axfxvx", 0, 0, 2, 2, 1 + 2);
        hide("1;-rxrxrx", 0, 0, 1, 3, 7);
        hide("1111;-rx,-rx,-rx,-r0xr1xr2x", 3, 0, 1, 3, 1 + 8 + 64);
        hide("1111;-rx,<0x,<1x,<2x", 3, 0, 1, 1, 1);
    }

    private static void hideNone() {
        DOC.promise(17, "NONE");
        hide("11;-rxrx,<0xrxrx", 1, 0, 1, SignBook.NONE, SignBook.NONE);
        hide("111;-rxrxrx,-rxrxrx,<0xr1x", 2, 0, 1, SignBook.NONE, SignBook.NONE);
        hide("11;-rxrx,<0xrx", 1, 0, 1, 3, 1 + 2 + 8);
    }

    private static void hideUnknown() {
        DOC.promise(17, "UNKNOWN: number, parameter (0, 1: one that there is)");
        SignBook x = Checks.bookOf("2102;-rxry,-rx,-,-rxry");
        for (int wrong : Checks.beyond(0, 3)) {
            DOC.refused(x, "number " + wrong, () -> x.hide(wrong, 0, 1, 0), SignBook.UNKNOWN);
            DOC.refused(x, "number " + wrong + ", way 3, what 2", () -> x.hide(wrong, 0, 3, 2), SignBook.UNKNOWN);
        }
        int[] parameters = {2, 1, 0, 2};
        for (int number = 0; number < 4; number++) {
            int asked = number;
            for (int parameter : Checks.beyond(0, parameters[number] - 1)) {
                String call = "parameter " + parameter + " of class " + number;
                DOC.refused(x, call, () -> x.hide(asked, parameter, 1, 0), SignBook.UNKNOWN);
                DOC.refused(x, call + ", way 0, what -1", () -> x.hide(asked, parameter, 0, -1), SignBook.UNKNOWN);
            }
        }
        DOC.refused(NO_BOOK, "without a book", () -> NO_BOOK.hide(0, 0, 0, 2), SignBook.UNKNOWN);
        DOC.due("none of these was done", x.count(10), 0);
    }

    private static void hideOutside() {
        DOC.promise(17, "OUTSIDE: way (1, 2), what");
        SignBook x = Checks.bookOf("2;-rxay");
        for (int way : Checks.beyond(1, 2)) {
            DOC.refused(x, "way " + way, () -> x.hide(0, 1, way, 0), SignBook.OUTSIDE);
        }
        for (int what : Checks.beyond(0, 1)) {
            DOC.refused(x, "what " + what, () -> x.hide(0, 1, 2, what), SignBook.OUTSIDE);
        }
        DOC.refused(x, "both ways at once", () -> x.hide(0, 1, 3, 1), SignBook.OUTSIDE);
        DOC.due("none of these was done", x.count(10), 0);
        DOC.due("way 1", x.hide(0, 1, 1, 0), 0);
        DOC.due("way 2", x.hide(0, 1, 2, 1), 2);
    }

    private static void hideState() {
        DOC.promise(17, "STATE: hide() was done 12 times");
        SignBook x = Checks.bookOf("11;-rxrx,<0xrxrx");
        for (int time = 1; time <= MOST_HIDES; time++) {
            int want = time % 3 == 0 ? SignBook.NONE : time % 3 == 1 ? 0 : 2;
            DOC.due("time " + time, x.hide(time % 3 == 0 ? 1 : 0, 0, time % 3 == 1 ? 2 : 1, 0), want);
            x.hide(2, 0, 1, 0);
            x.hide(0, 0, 3, 0);
            DOC.due("what is refused is not done", x.count(10), time);
        }
        DOC.refused(x, "time 13", () -> x.hide(0, 0, 1, 0), SignBook.STATE);
        DOC.refused(x, "time 13, which", () -> x.hide(1, 0, 2, 1), SignBook.STATE);
        DOC.refused(x, "time 13, no class", () -> x.hide(2, 0, 1, 0), SignBook.UNKNOWN);
        DOC.refused(x, "time 13, no way", () -> x.hide(0, 0, 3, 0), SignBook.OUTSIDE);
        x.image();
        x.restore();
        DOC.refused(x, "time 13 behind restore()", () -> x.hide(0, 0, 1, 0), SignBook.STATE);
        Checks.write(x, "1;-rx");
        x.book();
        DOC.refused(x, "time 13 in another book", () -> x.hide(0, 0, 1, 0), SignBook.STATE);
    }
}
