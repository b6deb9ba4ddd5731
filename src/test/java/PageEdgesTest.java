/** The sentences of promises 1 to 5, each at its edges: a new object, letter, blank, fault, book. */
public final class PageEdgesTest {
    private static final Sentences DOC = Sentences.ofPromises(1, 5);
    private static final int MOST = 90;
    private static final String KINDS = "rafhv";
    private static final String LONGEST = "1;-r" + "0".repeat(85) + "x";

    public static void main(String[] args) {
        newObject();
        newObjectBesideAnother();
        letterComes();
        letterOutside();
        letterFull();
        blank();
        faultBehindCounts();
        faultBehindBodies();
        faultBehindAbove();
        faultInTypes();
        firstOfSeveralFaults();
        goingOnNeedNotBeSeen();
        noFault();
        bookIsRead();
        anotherBookIsGone();
        anotherBookOfTheSameText();
        pageIsEmptyThen();
        bookThatIsNone();
        noneLeavesTheFormerOne();
        DOC.end();
    }

    private static void newObject() {
        DOC.promise(1, "No BOOK");
        SignBook x = new SignBook();
        DOC.due("digest()", x.digest(), Checks.digestOf(new int[8 + 11]));
        for (int what = 0; what <= 10; what++) {
            DOC.due("count(" + what + ")", x.count(what), 0);
        }
        DOC.refused(x, "book()", x::book, SignBook.STATE);
        DOC.refused(x, "about(0, 0)", () -> x.about(0, 0), SignBook.UNKNOWN);
        DOC.refused(x, "member(0, 0, 0)", () -> x.member(0, 0, 0), SignBook.UNKNOWN);
        DOC.refused(x, "as(0, 0, 0)", () -> x.as(0, 0, 0), SignBook.UNKNOWN);
        DOC.refused(x, "change(0, 0, 0)", () -> x.change(0, 0, 0), SignBook.UNKNOWN);
        DOC.refused(x, "read(0, 0, 0)", () -> x.read(0, 0, 0), SignBook.UNKNOWN);
        DOC.refused(x, "lift(0, 0)", () -> x.lift(0, 0), SignBook.UNKNOWN);
        DOC.refused(x, "rounds()", x::rounds, SignBook.STATE);
        DOC.refused(x, "sign(0, 0)", () -> x.sign(0, 0), SignBook.UNKNOWN);
        DOC.refused(x, "suits(0, 0)", () -> x.suits(0, 0), SignBook.UNKNOWN);
        DOC.refused(x, "stores(0, 0, 0)", () -> x.stores(0, 0, 0), SignBook.UNKNOWN);
        DOC.refused(x, "hide(0, 0, 1, 0)", () -> x.hide(0, 0, 1, 0), SignBook.UNKNOWN);
        DOC.refused(x, "see(0, 0, 0, true)", () -> x.see(0, 0, 0, true), SignBook.UNKNOWN);
        DOC.refused(x, "drawn(1, 0, 0)", () -> x.drawn(1, 0, 0), SignBook.STATE);
        DOC.refused(x, "image()", x::image, SignBook.STATE);
        DOC.refused(x, "restore()", x::restore, SignBook.STATE);
        DOC.due("blank()", x.blank(), 0);
        DOC.due("fault()", x.fault(), 0);
        DOC.due("forget()", x.forget(), 0);
        x.letter('0');
        DOC.refused(x, "type(0)", () -> x.type(0), SignBook.STATE);
    }

    private static void newObjectBesideAnother() {
        DOC.promise(1, "No BOOK");
        SignBook other = Checks.bookOf("1;-rx");
        other.see(0, 0, 0, true);
        other.hide(0, 0, 1, 0);
        other.image();
        other.letter('0');
        SignBook x = new SignBook();
        DOC.due("digest() beside another one", x.digest(), Checks.digestOf(new int[8 + 11]));
        DOC.due("restore() beside another one", x.restore(), SignBook.STATE);
        Checks.write(x, "0;-");
        x.book();
        DOC.due("the other one keeps its way", other.about(0, 3), 1);
        DOC.due("the other one keeps its page", other.count(8), 1);
    }

    private static void letterComes() {
        DOC.promise(2, "A letter comes behind THE PAGE");
        SignBook x = new SignBook();
        DOC.due("the first one", x.letter('b'), 1);
        DOC.due("one behind it", x.letter('a'), 2);
        DOC.due("the same once more", x.letter('a'), 3);
        DOC.due("digest()", x.digest(), Checks.digestOf(0, 0, 0, 0, 0, 0, 0, 0, 'b', 'a', 'a',
            0, 0, 0, 0, 0, 0, 0, 0, 3, 0, 0));
        for (int many = 4; many <= MOST; many++) {
            DOC.due("letter " + many, x.letter(many), many);
        }
    }

    private static void letterOutside() {
        DOC.promise(2, "OUTSIDE: code (1 to 126)");
        SignBook x = new SignBook();
        for (int code : Checks.beyond(1, 126)) {
            DOC.refused(x, "letter(" + code + ") on an empty page", () -> x.letter(code), SignBook.OUTSIDE);
        }
        DOC.due("letter(1)", x.letter(1), 1);
        DOC.due("letter(126)", x.letter(126), 2);
        DOC.due("digest()", x.digest(), Checks.digestOf(0, 0, 0, 0, 0, 0, 0, 0, 1, 126,
            0, 0, 0, 0, 0, 0, 0, 0, 2, 0, 0));
        Checks.write(x, "z".repeat(MOST));
        for (int code : Checks.beyond(1, 126)) {
            DOC.refused(x, "letter(" + code + ") on a full page", () -> x.letter(code), SignBook.OUTSIDE);
        }
    }

    private static void letterFull() {
        DOC.promise(2, "FULL: above 90");
        SignBook x = new SignBook();
        Checks.write(x, "z".repeat(MOST - 1));
        DOC.due("letter 90", x.letter('z'), MOST);
        for (int code : new int[] {1, 'z', 126}) {
            DOC.refused(x, "letter(" + code + ") as letter 91", () -> x.letter(code), SignBook.FULL);
        }
        DOC.due("count(8)", x.count(8), MOST);
        x.blank();
        DOC.due("behind blank()", x.letter('z'), 1);
    }

    private static void blank() {
        DOC.promise(3, "THE PAGE is empty");
        SignBook x = new SignBook();
        DOC.due("blank() of an empty page", x.blank(), 0);
        x.letter('0');
        DOC.due("blank() of one letter", x.blank(), 1);
        DOC.due("blank() once more", x.blank(), 0);
        DOC.due("count(8)", x.count(8), 0);
        DOC.due("fault()", x.fault(), 0);
        SignBook y = Checks.bookOf("01;-,-rx");
        Checks.typeInto(y, 0, "10");
        y.see(1, 0, 0, true);
        long before = y.digest();
        Checks.write(y, "z".repeat(MOST));
        y.letter('z');
        DOC.due("blank() of a full page", y.blank(), MOST);
        DOC.due("all but THE PAGE is as it was", y.digest(), before);
    }

    /** Each code but these letters is the fault behind what is ahead; these letters are none. */
    private static void only(String letters, String ahead) {
        for (int code = 1; code <= 126; code++) {
            SignBook x = new SignBook();
            Checks.write(x, ahead);
            x.letter(code);
            long before = x.digest();
            int want = letters.indexOf(code) < 0 ? ahead.length() : ahead.length() + 1;
            DOC.due("letter " + code + " behind " + ahead, x.fault(), want);
            DOC.due("letter " + code + " behind " + ahead + ": the digest", x.digest(), before);
        }
    }

    private static void faultBehindCounts() {
        DOC.promise(4, "The place (from 0)");
        only("012", "");
        only("012;", "0");
        only("012;", "2");
        only("012;", "012");
        only(";", "0000");
        only(";", "2121");
    }

    private static void faultBehindBodies() {
        DOC.promise(4, "The place (from 0)");
        only("-<", "00;-,");
        only("-<", "0001;-,-,-r0a0f0,");
        only(KINDS, "0;-");
        only(KINDS + ",", "00;-");
        only(KINDS, "00;-,-");
        only(KINDS, "0000;-,-,-,-");
        only(KINDS, "0;-r0");
        only(KINDS, "0;-r0a0");
        only("", "0;-r0a0f0");
        only(",", "00;-r0a0f0");
        only("", "0000;-,-,-,<2r3v2f1");
    }

    private static void faultBehindAbove() {
        DOC.promise(4, "The place (from 0)");
        only("0", "00;-,<");
        only("012", "0000;-,-,-,<");
        only(KINDS, "00;-,<0");
        only(KINDS + ",", "000;-,<0");
        only("x", "11;-,<0");
        only("xy", "12;-,<0");
        only("1", "10;-,<0");
        only("xy2", "120;-,<0");
        only("x2", "210;-,<0");
        only("x2", "210;-,<0x");
        only("x2", "210;-,<02");
        only(KINDS + ",", "210;-,<0x2");
        only("xy02", "0202;-,-r0,-,<1");
        only("xy02", "0202;-,-r0,-,<1x");
    }

    private static void faultInTypes() {
        DOC.promise(4, "The place (from 0)");
        only("0", "0;-r");
        only("x0", "1;-a");
        only("xy0", "2;-f");
        only("01", "02;-h");
        only("01xy", "02;-,-v");
        only("0123x", "0121;-,-,-,-r");
        only("x0", "1;-r0");
        only("x0", "1;-r" + "0".repeat(80));
        only("xy0", "2;-r0");
        only("xy0", "2;-r0x");
        only(KINDS, "2;-r0xy");
        only("xy0", "2;-r00xy");
        only(KINDS, "2;-r00xyx");
    }

    private static void firstOfSeveralFaults() {
        DOC.promise(4, "The place (from 0)");
        faultIs("3;x", 0);
        faultIs("03;x", 1);
        faultIs("0;-r0zz", 5);
        faultIs("0;-r0a0f0v0z", 9);
        faultIs("z".repeat(MOST), 0);
        faultIs("1;-r" + "0".repeat(85) + "z", MOST - 1);
    }

    private static void faultIs(String text, int place) {
        SignBook x = new SignBook();
        Checks.write(x, text);
        DOC.due("fault() of " + text, x.fault(), place);
        DOC.due("fault() of " + text + " once more", x.fault(), place);
    }

    /** No class is less than class 0, and what needs 91 letters fits no page: neither is looked for. */
    private static void goingOnNeedNotBeSeen() {
        DOC.promise(4, "The place (from 0)");
        only("-<", "0;");
        only("-<", "2010;");
        only("", "0;<");
        faultIs("1;-r" + "0".repeat(86), MOST);
    }

    private static void noFault() {
        DOC.promise(4, "how many letters it has, if there is none");
        faultIs("", 0);
        for (String whole : new String[] {"0;-", "0000;-,<0,<1,<2", "2;-rxayf0xy", "0012;-,<0r1,-rxa20,<2yf2xv3xy", LONGEST}) {
            for (int many = 1; many <= whole.length(); many++) {
                faultIs(whole.substring(0, many), many);
            }
        }
    }

    private static void bookIsRead() {
        DOC.promise(5, "THE PAGE is read as THE BOOK");
        for (String text : new String[] {"0;-", "22;-,-", "000;-,-,-", "0122;-,-,-,<2xy"}) {
            SignBook x = new SignBook();
            Checks.write(x, text);
            DOC.due("book() of " + text, x.book(), text.indexOf(';'));
            DOC.due("count(0)", x.count(0), text.indexOf(';'));
            DOC.due("count(9)", x.count(9), 1);
        }
        SignBook x = new SignBook();
        Checks.write(x, LONGEST);
        DOC.due("book() of 90 letters", x.book(), 1);
        DOC.due("signs of its type", x.member(0, 0, 3), 86);
    }

    private static void anotherBookIsGone() {
        DOC.promise(5, "THE PAGE is read as THE BOOK");
        SignBook x = Checks.bookOf("0122;-r0a0f0,<0rxaxfx,<1xrxayf3xy,<2xyrxayv2xy");
        for (int slot = 0; slot < 8; slot++) {
            Checks.typeInto(x, slot, "3" + "10" + "200");
        }
        for (int time = 0; time < 6; time++) {
            x.see(0, 0, 0, time % 2 == 0);
        }
        x.change(3, 2, 1);
        x.image();
        Checks.write(x, "20;-,-r1");
        DOC.due("book()", x.book(), 2);
        DOC.due("digest()", x.digest(), Checks.digestOf(
            2, -1, 0, 0, 0, 0,
            0, -1, 1, -1, -1, 0,
            0, -1, -1, 1, 31, 0,
            0, 0, 0, 0, 0, 0, 0, 0,
            0,
            2, 2, 1, 2, 0, 0, 0, 0, 0, 2, 0));
        DOC.due("class 2", x.about(2, 0), SignBook.UNKNOWN);
        DOC.due("the image", x.restore(), SignBook.STATE);
        DOC.due("a slot", x.sign(7, 0), SignBook.UNKNOWN);
        DOC.due("see()", x.see(1, 0, 0, true), 1);
    }

    private static void anotherBookOfTheSameText() {
        DOC.promise(5, "THE PAGE is read as THE BOOK");
        SignBook x = Checks.bookOf("1;-rxax");
        x.change(0, 0, 3);
        x.change(0, 1, 3);
        x.image();
        Checks.write(x, "1;-rxax");
        DOC.due("book()", x.book(), 1);
        DOC.due("the kind is as written", x.member(0, 1, 0), 1);
        DOC.due("the ways are as written", x.about(0, 3), 3);
        DOC.due("the image", x.restore(), SignBook.STATE);
        DOC.due("count(9)", x.count(9), 2);
    }

    private static void pageIsEmptyThen() {
        DOC.promise(5, "THE PAGE is empty then");
        SignBook x = Checks.bookOf(LONGEST);
        DOC.due("count(8)", x.count(8), 0);
        DOC.due("fault()", x.fault(), 0);
        DOC.due("book() once more", x.book(), SignBook.STATE);
        DOC.due("letter()", x.letter('0'), 1);
        DOC.due("blank()", x.blank(), 1);
    }

    private static void bookThatIsNone() {
        DOC.promise(5, "STATE: it is none");
        for (String text : new String[] {"", "0", "0000", "0;", "0;<", "0;<0", "00;-", "00;-,", "00;-,<", "10;-,<0", "0;-r",
            "1;-r0", "2;-r0x", "0;-,", "0;-,-", "0;-r0a0f0v0", "00000;-,-,-,-,-", "0;-rx", "1;-ry", "3;-", ";-",
            "0;-r0r", "0;-;", "1;-r" + "0".repeat(86)}) {
            SignBook x = new SignBook();
            Checks.write(x, text);
            DOC.refused(x, "book() of " + text, x::book, SignBook.STATE);
            DOC.due("count(8) of " + text, x.count(8), text.length());
            DOC.due("rounds() of " + text, x.rounds(), SignBook.STATE);
        }
    }

    private static void noneLeavesTheFormerOne() {
        DOC.promise(5, "STATE: it is none");
        SignBook x = Checks.bookOf("01;-,-rx");
        Checks.typeInto(x, 3, "10");
        x.see(1, 0, 0, true);
        x.change(1, 0, 1);
        x.image();
        Checks.write(x, "2222;-,-,-,-rxayf0x");
        DOC.refused(x, "book()", x::book, SignBook.STATE);
        DOC.due("the ways", x.about(1, 3), 2);
        DOC.due("the image", x.restore(), 1);
        DOC.slot(x, 3, "10");
    }
}
