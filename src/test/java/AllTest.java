/** Promises 21 to 24: image, restore, count, digest. */
public final class AllTest {
    private static final Checks CHECKS = new Checks();

    public static void main(String[] args) {
        imageAndRestore();
        latestImage();
        imageWithoutBook();
        anotherBookSince();
        count();
        digestOfNothing();
        digestByHand();
        digestOfOneClass();
        digestOfWhatDoesNotSuit();
        CHECKS.end();
    }

    private static void imageAndRestore() {
        SignBook x = Checks.bookOf("01;-,-rxax");
        Checks.typeInto(x, 0, "110");
        x.see(1, 0, 0, true);
        x.change(1, 1, 3);
        CHECKS.due("21: image()", x.image(), 1);
        CHECKS.due("21: the ways then", x.about(1, 3), 1);
        x.change(1, 0, 3);
        x.change(1, 1, 1);
        Checks.typeInto(x, 0, "0");
        Checks.typeInto(x, 5, "10");
        x.see(1, 0, 2, true);
        x.see(1, 1, 2, true);
        x.hide(1, 0, 1, 0);
        x.letter('z');
        CHECKS.due("22: restore()", x.restore(), 1);
        CHECKS.due("22: kinds", 10 * x.member(1, 0, 0) + x.member(1, 1, 0), 3);
        CHECKS.due("22: ways", x.about(1, 3), 1);
        CHECKS.due("22: rounds", x.rounds(), 1);
        CHECKS.slot(x, 0, "110");
        CHECKS.due("22: a slot that was empty", x.sign(5, 0), SignBook.UNKNOWN);
        CHECKS.due("22: seen", x.count(7), 1);
        CHECKS.due("22: sorts", x.member(1, 0, 4), 21);
        CHECKS.due("22: sorts of another one", x.member(1, 1, 4), 31);
        CHECKS.due("22: the page is not in it", x.count(8), 1);
        CHECKS.due("22: how often hide() was done is not in it", x.count(10), 1);
        // What is done afterwards is not done to the image.
        x.change(1, 0, 2);
        Checks.typeInto(x, 0, "10");
        x.forget();
        x.see(1, 1, 1, false);
        CHECKS.due("22: restore() once more", x.restore(), 1);
        CHECKS.due("22: the kind once more", x.member(1, 0, 0), 0);
        CHECKS.slot(x, 0, "110");
        CHECKS.due("22: sorts once more", x.member(1, 0, 4), 21);
    }

    private static void latestImage() {
        SignBook x = Checks.bookOf("1;-rx");
        CHECKS.due("22: image() with a way", x.image(), 0);
        CHECKS.due("22: restore()", x.restore(), 0);
        CHECKS.due("22: the way is there", x.about(0, 3), 1);
        x = Checks.bookOf("0;-r0");
        CHECKS.due("21: image() of nothing", x.image(), 0);
        Checks.typeInto(x, 2, "0");
        Checks.typeInto(x, 3, "0");
        CHECKS.due("21: image()", x.image(), 2);
        x.change(0, 0, 1);
        Checks.typeInto(x, 4, "0");
        CHECKS.due("22: restore() the latest", x.restore(), 2);
        CHECKS.due("22: count(5)", x.count(5), 2);
    }

    private static void imageWithoutBook() {
        SignBook x = new SignBook();
        CHECKS.refused(x, "21: no book", x::image, SignBook.STATE);
        CHECKS.refused(x, "22: no image", x::restore, SignBook.STATE);
        SignBook y = Checks.bookOf("0;-r0");
        CHECKS.refused(y, "22: no image of a book", y::restore, SignBook.STATE);
    }

    private static void anotherBookSince() {
        SignBook x = Checks.bookOf("0;-r0");
        x.image();
        Checks.write(x, "0;-r0r");
        CHECKS.refused(x, "22: it is no book", x::book, SignBook.STATE);
        CHECKS.due("22: no other book since", x.restore(), 0);
        Checks.write(x, "0;-r0");
        CHECKS.due("22: another book", x.book(), 1);
        CHECKS.refused(x, "22: another book since", x::restore, SignBook.STATE);
        CHECKS.due("22: image() of that", x.image(), 0);
        CHECKS.due("22: restore() of that", x.restore(), 0);
    }

    private static void count() {
        SignBook x = Checks.bookOf("0122;-,-hxrx,-rxfyh1x,<2xya1y");
        Checks.typeInto(x, 0, "0");
        Checks.typeInto(x, 3, "200");
        Checks.typeInto(x, 7, "10");
        x.see(1, 0, 0, true);
        x.hide(1, 0, 1, 0);
        x.hide(1, 0, 1, 1);
        Checks.write(x, "zzzz");
        int[] want = {4, 5, 6, 0, 2, 3, 6, 1, 4, 1, 2};
        for (int what = 0; what < want.length; what++) {
            CHECKS.due("23: count(" + what + ")", x.count(what), want[what]);
        }
        x.change(1, 1, 3);
        CHECKS.due("23: one that goes no way", x.count(3), 1);
        SignBook first = Checks.bookOf("210;-fx,-,-");
        CHECKS.due("23: parameters of class 0, too", first.count(1), 3);
        CHECKS.due("23: its second one goes no way", first.count(3), 2);
        CHECKS.due("23: its first one goes both", first.count(4), 1);
        for (int what : new int[] {-1, 11, Integer.MIN_VALUE, Integer.MAX_VALUE}) {
            CHECKS.refused(x, "23: what " + what, () -> x.count(what), SignBook.OUTSIDE);
        }
    }

    private static void digestOfNothing() {
        SignBook x = new SignBook();
        CHECKS.due("24: a new object", x.digest(), Checks.digestOf(0, 0, 0, 0, 0, 0, 0, 0,
            0, 0, 0, 0, 0, 0, 0, 0, 0, 0, 0));
        x.letter('a');
        x.letter('b');
        CHECKS.due("24: with a page", x.digest(), Checks.digestOf(0, 0, 0, 0, 0, 0, 0, 0,
            97, 98, 0, 0, 0, 0, 0, 0, 0, 0, 2, 0, 0));
    }

    private static void digestByHand() {
        SignBook x = Checks.bookOf("01;-r0,<0rxh1x");
        Checks.typeInto(x, 0, "10");
        x.see(1, 0, 0, false);
        CHECKS.due("24: slot 1 is empty", x.digest(), Checks.digestOf(
            0, -1, 1, -1, -1, 0,
            0, -1, -1, 1, 31, 0,
            1, 0, 2, 1, -1, 1,
            0, 1, -1, 1, 10, 1,
            3, 0, -1, 2, 31, 0,
            2, 1, 0, 0, 0, 0, 0, 0, 0, 0,
            1,
            2, 1, 3, 0, 0, 1, 2, 1, 0, 1, 0));
        Checks.typeInto(x, 1, "0");
        x.hide(1, 0, 1, 0);
        x.letter('x');
        CHECKS.due("24: slots 0 and 1", x.digest(), Checks.digestOf(
            0, -1, 1, -1, -1, 0,
            0, -1, -1, 1, 31, 0,
            1, 0, 2, 1, -1, 1,
            0, 1, -1, 1, 10, 1,
            3, 0, -1, 2, 31, 0,
            2, 1, 0, 1, 0, 0, 0, 0, 0, 0, 0,
            1,
            1,
            'x',
            2, 1, 3, 0, 0, 2, 3, 1, 1, 1, 1));
    }

    private static void digestOfOneClass() {
        SignBook x = Checks.bookOf("0;-");
        Checks.typeInto(x, 1, "0");
        CHECKS.due("24: slot 0 is empty", x.digest(), Checks.digestOf(
            0, -1, 0, -1, -1, 0,
            0, 1, 0, 0, 0, 0, 0, 0, 0,
            0,
            1, 0, 0, 0, 0, 1, 1, 0, 0, 1, 0));
    }

    /** Slot 0 for slot 1, not the other way round. */
    private static void digestOfWhatDoesNotSuit() {
        SignBook x = Checks.bookOf("00;-,<0");
        Checks.typeInto(x, 0, "0");
        Checks.typeInto(x, 1, "1");
        CHECKS.due("24: it does not suit", x.digest(), Checks.digestOf(
            0, -1, 0, -1, -1, 0,
            0, 0, 0, -1, -1, 1,
            1, 0, 1, 1, 0, 0, 0, 0, 0, 0,
            0,
            0,
            2, 0, 0, 0, 0, 2, 2, 0, 0, 1, 0));
    }
}
