import java.math.BigInteger;
import java.util.ArrayList;
import java.util.List;

/** The sentences of promises 21 to 24, each at its edges: image, restore, count, digest. */
public final class AllEdgesTest {
    private static final Sentences DOC = Sentences.ofPromises(21, 24);
    private static final int SLOTS = 8;
    /** Eight parameters, twelve members, and each parameter goes both ways. */
    private static final String FULLEST = "2222;-fxfyfx,-fxfyfx,-fxfyfx,-fxfyfx";

    public static void main(String[] args) {
        imageOfNoneToAllSlots();
        imageTheLatest();
        imageState();
        restoreGoesOn();
        restoreMoreThanOnce();
        restoreState();
        countLeast();
        countMost();
        countWhatStays();
        countOutside();
        digestInOrder();
        digestOfSlots();
        digestOfSuits();
        digestOfRounds();
        digestOfPage();
        digestOfCounts();
        DOC.end();
    }

    private static void imageOfNoneToAllSlots() {
        DOC.promise(21, "An IMAGE is kept");
        SignBook x = Checks.bookOf("0;-");
        DOC.due("no slot", x.image(), 0);
        for (int many = 1; many <= SLOTS; many++) {
            Checks.typeInto(x, SLOTS - many, "0");
            long before = x.digest();
            DOC.due(many + " slots", x.image(), many);
            DOC.due("image() changed the digest", x.digest(), before);
        }
    }

    private static void imageTheLatest() {
        DOC.promise(21, "An IMAGE is kept");
        SignBook x = Checks.bookOf("01;-,-rx");
        Checks.typeInto(x, 0, "0");
        x.image();
        x.change(1, 0, 1);
        Checks.typeInto(x, 0, "10");
        x.see(1, 0, 1, true);
        long latest = x.digest();
        DOC.due("image() once more", x.image(), 1);
        x.change(1, 0, 3);
        Checks.typeInto(x, 0, "110");
        x.forget();
        x.restore();
        DOC.due("the latest", x.digest(), latest);
    }

    private static void imageState() {
        DOC.promise(21, "STATE: no BOOK");
        SignBook x = new SignBook();
        DOC.refused(x, "a new object", x::image, SignBook.STATE);
        DOC.refused(x, "nothing was kept", x::restore, SignBook.STATE);
        Checks.write(x, "0;-");
        DOC.refused(x, "it is not read yet", x::image, SignBook.STATE);
        x.book();
        DOC.refused(x, "nothing was kept of it", x::restore, SignBook.STATE);
        DOC.due("it is read", x.image(), 0);
    }

    private static void restoreGoesOn() {
        DOC.promise(22, "It goes on from the IMAGE");
        SignBook x = Checks.bookOf("01;-,-rxax");
        Checks.typeInto(x, 0, "1".repeat(14) + "0");
        Checks.typeInto(x, SLOTS - 1, "10");
        x.see(1, 0, 0, true);
        x.change(1, 1, 3);
        long before = x.digest();
        x.image();
        for (int slot = 0; slot < SLOTS; slot++) {
            Checks.typeInto(x, slot, "0");
        }
        for (int time = 0; time < 6; time++) {
            x.see(1, 1, 1, false);
        }
        x.change(1, 0, 2);
        x.change(1, 1, 2);
        DOC.due("restore() of two slots", x.restore(), 2);
        DOC.due("all is as it was", x.digest(), before);
        DOC.due("a slot that was empty", x.sign(1, 0), SignBook.UNKNOWN);
        DOC.due("see()", x.see(1, 0, 2, true), 2);
    }

    /** What is done behind restore() is not done to the image. */
    private static void restoreMoreThanOnce() {
        DOC.promise(22, "It goes on from the IMAGE");
        SignBook x = Checks.bookOf("01;-,-rx");
        for (int slot = 0; slot < SLOTS; slot++) {
            Checks.typeInto(x, slot, "10");
        }
        long before = x.digest();
        x.image();
        for (int time = 0; time < 3; time++) {
            x.change(1, 0, 1 + time);
            Checks.typeInto(x, time, "110");
            x.see(1, 0, time, true);
            DOC.due("restore() of eight slots", x.restore(), SLOTS);
            DOC.due("all is as it was", x.digest(), before);
        }
        SignBook empty = Checks.bookOf("0;-");
        empty.image();
        DOC.due("restore() of no slot", empty.restore(), 0);
    }

    private static void restoreState() {
        DOC.promise(22, "STATE: none was kept, or there is another BOOK since");
        SignBook x = Checks.bookOf("0;-r0");
        DOC.refused(x, "none was kept", x::restore, SignBook.STATE);
        x.image();
        Checks.write(x, "0;-r");
        x.book();
        DOC.due("that was no other book", x.restore(), 0);
        Checks.write(x, "0;-r0");
        x.book();
        DOC.refused(x, "there is another one", x::restore, SignBook.STATE);
        x.change(0, 0, 1);
        DOC.refused(x, "there is still another one", x::restore, SignBook.STATE);
        x.image();
        DOC.due("one is kept of that", x.restore(), 0);
        DOC.due("its kind", x.member(0, 0, 0), 1);
    }

    private static void counts(SignBook x, int... want) {
        for (int what = 0; what < want.length; what++) {
            long before = x.digest();
            DOC.due("count(" + what + ")", x.count(what), want[what]);
            DOC.due("count(" + what + ") changed the digest", x.digest(), before);
        }
    }

    private static void countLeast() {
        DOC.promise(23, "How many: 0 CLASSES");
        counts(new SignBook(), 0, 0, 0, 0, 0, 0, 0, 0, 0, 0, 0);
        counts(Checks.bookOf("0;-"), 1, 0, 0, 0, 0, 0, 0, 0, 0, 1, 0);
        counts(Checks.bookOf("2222;-,-,-,-"), 4, 8, 0, 8, 0, 0, 0, 0, 0, 1, 0);
        counts(Checks.bookOf("22;-rxay,-vxay"), 2, 4, 4, 0, 0, 0, 0, 0, 0, 1, 0);
    }

    private static void countMost() {
        DOC.promise(23, "How many: 0 CLASSES");
        SignBook x = Checks.bookOf(FULLEST);
        for (int time = 0; time < 6; time++) {
            x.see(3, 2, 0, true);
        }
        for (int time = 0; time < 12; time++) {
            x.hide(3, 1, 2, 1);
        }
        Checks.write(x, "z".repeat(90));
        counts(x, 4, 8, 12, 0, 8, 0, 0, 6, 90, 1, 12);
        SignBook slots = Checks.bookOf("01;-,-hx");
        for (int slot = 0; slot < SLOTS; slot++) {
            Checks.typeInto(slots, slot, "1".repeat(14) + "0");
        }
        counts(slots, 2, 1, 1, 1, 0, 8, 120, 0, 0, 1, 0);
    }

    /** What is refused does not count; books and hides are counted on from book to book. */
    private static void countWhatStays() {
        DOC.promise(23, "How many: 0 CLASSES");
        SignBook x = Checks.bookOf("1;-rx");
        x.hide(0, 0, 1, 0);
        x.hide(0, 0, 3, 0);
        x.letter(0);
        x.book();
        x.see(0, 0, 3, true);
        counts(x, 1, 1, 1, 0, 0, 0, 0, 0, 0, 1, 1);
        x.see(0, 0, 0, true);
        x.image();
        x.hide(0, 0, 2, 0);
        Checks.write(x, "zz");
        x.restore();
        counts(x, 1, 1, 1, 0, 0, 0, 0, 1, 2, 1, 2);
        Checks.write(x, "0;-");
        x.book();
        counts(x, 1, 0, 0, 0, 0, 0, 0, 0, 0, 2, 2);
    }

    private static void countOutside() {
        DOC.promise(23, "OUTSIDE");
        for (SignBook x : new SignBook[] {new SignBook(), Checks.bookOf(FULLEST)}) {
            for (int what : Checks.beyond(0, 10)) {
                DOC.refused(x, "count(" + what + ")", () -> x.count(what), SignBook.OUTSIDE);
            }
        }
    }

    /** The numbers of a digest, from the answers of the other calls; the page is what the test wrote. */
    private static List<Integer> numbers(SignBook x, String page) {
        List<Integer> all = new ArrayList<>();
        for (int number = 0; number < x.count(0); number++) {
            for (int what = 0; what <= 5; what++) {
                all.add(x.about(number, what));
            }
            for (int member = 0; member < x.about(number, 2); member++) {
                for (int what = 0; what <= 5; what++) {
                    all.add(x.member(number, member, what));
                }
            }
        }
        for (int slot = 0; slot < SLOTS; slot++) {
            String signs = Checks.signs(x, slot);
            all.add(signs.length());
            signs.chars().forEach(sign -> all.add(sign - '0'));
        }
        if (x.suits(0, 1) >= 0) {
            all.add(x.suits(0, 1));
        }
        if (x.count(0) > 0) {
            all.add(x.rounds());
        }
        page.chars().forEach(all::add);
        for (int what = 0; what <= 10; what++) {
            all.add(x.count(what));
        }
        return all;
    }

    /** Not as longs, but in full, and the lowest 64 bits of that. */
    private static void digest(SignBook x, String page) {
        BigInteger h = BigInteger.valueOf(1381);
        for (int number : numbers(x, page)) {
            h = h.multiply(BigInteger.valueOf(31)).add(BigInteger.valueOf(number));
        }
        DOC.due("digest()", x.digest(), h.longValue());
        DOC.due("digest() once more", x.digest(), h.longValue());
    }

    private static void digestInOrder() {
        DOC.promise(24, "h is 1381");
        digest(new SignBook(), "");
        digest(Checks.bookOf("0;-"), "");
        digest(Checks.bookOf(FULLEST), "");
        SignBook x = Checks.bookOf("0122;-v0,<0rxh1x,-axry,<2yxf3xyr1x");
        digest(x, "");
        x.see(0, 0, 0, true);
        x.see(3, 1, 1, true);
        x.change(2, 1, 2);
        digest(x, "");
        DOC.due("by hand", Checks.bookOf("1;-ax").digest(), Checks.digestOf(
            1, -1, 1, 2, -1, 0,
            1, 2, -1, 1, 31, 0,
            0, 0, 0, 0, 0, 0, 0, 0,
            1,
            1, 1, 1, 0, 0, 0, 0, 0, 0, 1, 0));
    }

    private static void digestOfSlots() {
        DOC.promise(24, "of each SLOT how many signs");
        SignBook x = Checks.bookOf("01;-,-rx");
        for (int slot = SLOTS - 1; slot >= 0; slot--) {
            Checks.typeInto(x, slot, "1".repeat(2 * slot) + "0");
            digest(x, "");
        }
        Checks.typeInto(x, SLOTS - 1, "10");
        digest(x, "");
        SignBook y = Checks.bookOf("0;-");
        Checks.typeInto(y, 2, "0");
        DOC.due("by hand", y.digest(), Checks.digestOf(
            0, -1, 0, -1, -1, 0,
            0, 0, 1, 0, 0, 0, 0, 0, 0,
            0,
            1, 0, 0, 0, 0, 1, 1, 0, 0, 1, 0));
    }

    private static void digestOfSuits() {
        DOC.promise(24, "of SLOTS 0 and 1, if both are not empty, suits()");
        for (String types : new String[] {"1 0", "0 1", "0 -", "- 0", "- -"}) {
            SignBook x = Checks.bookOf("00;-,<0");
            for (int slot = 0; slot < 2; slot++) {
                Checks.typeInto(x, slot, "" + types.charAt(2 * slot));
                x.blank();
            }
            digest(x, "");
        }
        SignBook x = Checks.bookOf("00;-,<0");
        Checks.typeInto(x, 0, "1");
        Checks.typeInto(x, 1, "0");
        DOC.due("by hand", x.digest(), Checks.digestOf(
            0, -1, 0, -1, -1, 0,
            0, 0, 0, -1, -1, 1,
            1, 1, 1, 0, 0, 0, 0, 0, 0, 0,
            1,
            0,
            2, 0, 0, 0, 0, 2, 2, 0, 0, 1, 0));
    }

    private static void digestOfRounds() {
        DOC.promise(24, "with a BOOK rounds()");
        digest(Checks.bookOf("1111;-r1x,-r2x,-r3x,-rxa0x"), "");
        DOC.due("no book, by hand", new SignBook().digest(), Checks.digestOf(new int[SLOTS + 11]));
        DOC.due("two rounds, by hand", Checks.bookOf("1;-axa0x").digest(), Checks.digestOf(
            1, -1, 2, 3, -1, 0,
            1, 2, -1, 1, 31, 0,
            1, 3, -1, 2, 31, 0,
            0, 0, 0, 0, 0, 0, 0, 0,
            2,
            1, 1, 2, 0, 1, 0, 0, 0, 0, 1, 0));
    }

    private static void digestOfPage() {
        DOC.promise(24, "letters of THE PAGE");
        for (SignBook x : new SignBook[] {new SignBook(), Checks.bookOf("01;-,-rx")}) {
            for (String page : new String[] {"\u0001", "~", "ab", "ba", "z".repeat(89) + "~", ""}) {
                Checks.write(x, page);
                digest(x, page);
            }
        }
    }

    private static void digestOfCounts() {
        DOC.promise(24, "what count() tells for 0 to 10");
        SignBook x = Checks.bookOf(FULLEST);
        x.see(0, 0, 0, true);
        x.hide(0, 0, 1, 0);
        x.hide(0, 0, 1, 0);
        Checks.write(x, "abc");
        digest(x, "abc");
        Checks.write(x, "0;-");
        x.book();
        DOC.due("by hand", x.digest(), Checks.digestOf(
            0, -1, 0, -1, -1, 0,
            0, 0, 0, 0, 0, 0, 0, 0,
            0,
            1, 0, 0, 0, 0, 0, 0, 0, 0, 2, 2));
    }
}
