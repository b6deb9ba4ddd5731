/** The sentences of promises 6 to 8, each at its edges: about, member, as. */
public final class TellingEdgesTest {
    private static final Sentences DOC = Sentences.ofPromises(6, 8);
    private static final SignBook NO_BOOK = new SignBook();
    private static final String FOUR = "0000;-r0a0f0,-r0a0f0,-r0a0f0,-r0a0f0";

    public static void main(String[] args) {
        aboutClass();
        aboutChains();
        aboutUnknown();
        aboutOutside();
        ofMember();
        ofLongestMember();
        ofMemberSeen();
        memberUnknown();
        memberOutside();
        asItsNumber();
        asNone();
        asUnknown();
        asOutside();
        DOC.end();
    }

    private static void about(SignBook x, int number, int... want) {
        for (int what = 0; what < want.length; what++) {
            DOC.due("about(" + number + ", " + what + ")", x.about(number, what), want[what]);
        }
    }

    private static void aboutClass() {
        DOC.promise(6, "Of a CLASS: what = 0");
        about(Checks.bookOf("0;-"), 0, 0, -1, 0, -1, -1, 0);
        about(Checks.bookOf("1;-"), 0, 1, -1, 0, 0, -1, 0);
        about(Checks.bookOf("2;-"), 0, 2, -1, 0, 0, 0, 0);
        about(Checks.bookOf("1;-rx"), 0, 1, -1, 1, 1, -1, 0);
        about(Checks.bookOf("2;-rxay"), 0, 2, -1, 2, 1, 2, 0);
        about(Checks.bookOf("2;-rxayf0xy"), 0, 2, -1, 3, 3, 3, 0);
        about(Checks.bookOf("2222;-,-,-,-axryry"), 3, 2, -1, 3, 2, 1, 0);
        // Three members are all there are: the next class has its own.
        about(Checks.bookOf("11;-hxhxhx,-fx"), 0, 1, -1, 3, 0, -1, 0);
    }

    private static void aboutChains() {
        DOC.promise(6, "Of a CLASS: what = 0");
        SignBook chain = Checks.bookOf("0000;-,<0,<1,<2");
        for (int number = 0; number < 4; number++) {
            about(chain, number, 0, number - 1, 0, -1, -1, number);
        }
        SignBook fan = Checks.bookOf("0000;-,<0,<0,<1");
        about(fan, 2, 0, 0, 0, -1, -1, 1);
        about(fan, 3, 0, 1, 0, -1, -1, 2);
        about(Checks.bookOf("0000;-,<0,-,<0"), 3, 0, 0, 0, -1, -1, 1);
    }

    private static void aboutUnknown() {
        DOC.promise(6, "UNKNOWN");
        for (String text : new String[] {"0;-", "12;-,-", "0000;-,-,-,-"}) {
            SignBook x = Checks.bookOf(text);
            for (int number : Checks.beyond(0, text.indexOf(';') - 1)) {
                for (int what = -1; what <= 6; what++) {
                    int asked = what;
                    DOC.refused(x, "about(" + number + ", " + what + ") of " + text, () -> x.about(number, asked), SignBook.UNKNOWN);
                }
            }
        }
        DOC.refused(NO_BOOK, "about(0, 6) without a book", () -> NO_BOOK.about(0, 6), SignBook.UNKNOWN);
    }

    private static void aboutOutside() {
        DOC.promise(6, "OUTSIDE");
        SignBook x = Checks.bookOf("02;-,-rx");
        for (int number = 0; number < 2; number++) {
            int asked = number;
            for (int what : Checks.beyond(0, 5)) {
                DOC.refused(x, "about(" + number + ", " + what + ")", () -> x.about(asked, what), SignBook.OUTSIDE);
            }
        }
    }

    private static void member(SignBook x, int number, int member, int... want) {
        for (int what = 0; what < want.length; what++) {
            DOC.due("member(" + number + ", " + member + ", " + what + ")", x.member(number, member, what), want[what]);
        }
    }

    private static void ofMember() {
        DOC.promise(7, "Of a MEMBER: what = 0");
        SignBook plain = Checks.bookOf("0;-r0a0f0");
        member(plain, 0, 0, 0, -1, -1, 1, 31, 0);
        member(plain, 0, 1, 1, -1, -1, 1, 31, 0);
        member(plain, 0, 2, 2, -1, -1, 1, 31, 0);
        SignBook one = Checks.bookOf("0001;-,-,-,-hxvxf3x");
        member(one, 3, 0, 3, 0, -1, 1, 31, 0);
        member(one, 3, 1, 4, 1, -1, 1, 31, 0);
        member(one, 3, 2, 2, 3, -1, 2, 31, 0);
        SignBook two = Checks.bookOf("2222;-rxay,-,-,-r0yxa0yxf0yy");
        member(two, 3, 0, 0, 2, 1, 3, 31, 0);
        member(two, 3, 1, 1, 1, 2, 3, 31, 0);
        member(two, 3, 2, 2, 0, 3, 3, 31, 0);
        SignBook apart = Checks.bookOf("2;-rxayr0xy");
        member(apart, 0, 0, 0, 1, 0, 1);
        member(apart, 0, 1, 1, 0, 2, 1);
        member(apart, 0, 2, 0, 1, 2, 3);
        // It adds what others add, too; what goes no way adds none to either.
        SignBook same = Checks.bookOf("22;-rxrx,-f1xyr1xx");
        member(same, 0, 0, 0, 1, 0, 1);
        member(same, 0, 1, 0, 1, 0, 1);
        member(same, 1, 0, 2, 0, 0, 3);
    }

    private static void ofLongestMember() {
        DOC.promise(7, "Of a MEMBER: what = 0");
        member(Checks.bookOf("1;-r" + "0".repeat(85) + "x"), 0, 0, 0, 0, -1, 86, 31, 0);
        member(Checks.bookOf("1;-axr" + "0".repeat(83) + "x"), 0, 1, 0, 2, -1, 84, 31, 0);
        member(Checks.bookOf("1;-axr" + "0".repeat(82) + "x"), 0, 1, 0, 3, -1, 83, 31, 0);
    }

    private static void ofMemberSeen() {
        DOC.promise(7, "Of a MEMBER: what = 0");
        SignBook x = Checks.bookOf("00;-r0a0f0,-r0");
        x.see(0, 2, 0, true);
        x.see(0, 2, 1, false);
        member(x, 0, 2, 2, -1, -1, 1, 17, 2);
        x.see(0, 2, 2, true);
        member(x, 0, 2, 2, -1, -1, 1, 16, 0);
        x.see(0, 2, 0, false);
        member(x, 0, 2, 2, -1, -1, 1, 0, -1);
        member(x, 0, 1, 1, -1, -1, 1, 31, 0);
        member(x, 1, 0, 0, -1, -1, 1, 31, 0);
    }

    /** Member 3 of a class is none, not the first one of the next class; nor is -1 the last one of the one ahead. */
    private static void memberUnknown() {
        DOC.promise(7, "UNKNOWN: number, member");
        SignBook x = Checks.bookOf("000;-r0a0f0,-r0a0f0,-");
        for (int wrong : Checks.beyond(0, 2)) {
            for (int what = -1; what <= 6; what++) {
                int asked = what;
                DOC.refused(x, "number " + wrong, () -> x.member(wrong, 0, asked), SignBook.UNKNOWN);
                DOC.refused(x, "member " + wrong + " of class 0", () -> x.member(0, wrong, asked), SignBook.UNKNOWN);
                DOC.refused(x, "member " + wrong + " of class 1", () -> x.member(1, wrong, asked), SignBook.UNKNOWN);
            }
        }
        SignBook four = Checks.bookOf(FOUR);
        for (int wrong : Checks.beyond(0, 3)) {
            DOC.refused(four, "number " + wrong + " of four", () -> four.member(wrong, 0, 0), SignBook.UNKNOWN);
        }
        DOC.refused(x, "class 2 has none", () -> x.member(2, 0, 0), SignBook.UNKNOWN);
        DOC.refused(x, "member -1 of class 2", () -> x.member(2, -1, 0), SignBook.UNKNOWN);
        SignBook one = Checks.bookOf("0;-r0");
        DOC.refused(one, "member 1 of one", () -> one.member(0, 1, 0), SignBook.UNKNOWN);
        DOC.refused(NO_BOOK, "without a book", () -> NO_BOOK.member(0, 0, 6), SignBook.UNKNOWN);
    }

    private static void memberOutside() {
        DOC.promise(7, "OUTSIDE");
        SignBook x = Checks.bookOf("02;-r0,-rxayf1xy");
        for (int what : Checks.beyond(0, 5)) {
            DOC.refused(x, "what " + what + " of member 0", () -> x.member(0, 0, what), SignBook.OUTSIDE);
            DOC.refused(x, "what " + what + " of member 2", () -> x.member(1, 2, what), SignBook.OUTSIDE);
        }
    }

    private static void asItsNumber() {
        DOC.promise(8, "A MEMBER taken as a KIND: its number");
        for (int member = 0; member < 3; member++) {
            SignBook x = Checks.bookOf("00;-r0a0f0,-r0a0f0");
            for (int kind = 0; kind <= 4; kind++) {
                x.change(1, member, kind);
                DOC.due("kind " + kind + " as it is", x.as(1, member, kind), member);
                DOC.due("kind " + kind + " as 0", x.as(1, member, 0), member);
            }
            DOC.due("kind 4 as 2", x.as(1, member, 2), member);
        }
    }

    private static void asNone() {
        DOC.promise(8, "NONE: it is none such");
        SignBook x = Checks.bookOf("0;-r0");
        int[][] none = {{1, 2, 3, 4}, {2, 3, 4}, {1, 3, 4}, {1, 2, 4}, {1, 3}};
        for (int is = 0; is <= 4; is++) {
            x.change(0, 0, is);
            for (int kind : none[is]) {
                DOC.refused(x, "kind " + is + " as " + kind, () -> x.as(0, 0, kind), SignBook.NONE);
            }
        }
    }

    private static void asUnknown() {
        DOC.promise(8, "UNKNOWN: number, member");
        SignBook x = Checks.bookOf("000;-r0a0f0,-r0a0f0,-");
        for (int wrong : Checks.beyond(0, 2)) {
            for (int kind = -1; kind <= 5; kind++) {
                int asked = kind;
                DOC.refused(x, "number " + wrong, () -> x.as(wrong, 0, asked), SignBook.UNKNOWN);
                DOC.refused(x, "member " + wrong + " of class 0", () -> x.as(0, wrong, asked), SignBook.UNKNOWN);
                DOC.refused(x, "member " + wrong + " of class 1", () -> x.as(1, wrong, asked), SignBook.UNKNOWN);
            }
        }
        SignBook four = Checks.bookOf(FOUR);
        for (int wrong : Checks.beyond(0, 3)) {
            DOC.refused(four, "number " + wrong + " of four", () -> four.as(wrong, 0, 0), SignBook.UNKNOWN);
        }
        DOC.refused(x, "class 2 has none", () -> x.as(2, 0, 0), SignBook.UNKNOWN);
        DOC.refused(NO_BOOK, "without a book", () -> NO_BOOK.as(0, 0, 5), SignBook.UNKNOWN);
    }

    private static void asOutside() {
        DOC.promise(8, "OUTSIDE");
        SignBook x = Checks.bookOf("0;-r0a0f0");
        for (int member = 0; member < 3; member++) {
            int asked = member;
            for (int kind : Checks.beyond(0, 4)) {
                DOC.refused(x, "kind " + kind, () -> x.as(0, asked, kind), SignBook.OUTSIDE);
            }
        }
    }
}
