import java.math.BigInteger;

/** The sentences of promises 18 to 20, each at its edges: see, forget, drawn. */
public final class SeenEdgesTest {
    private static final Sentences DOC = Sentences.ofPromises(18, 20);
    private static final SignBook NO_BOOK = new SignBook();
    private static final int MOST_SEEN = 6;
    private static final int MOST_TIMES = 60;

    public static void main(String[] args) {
        seeHowMuch();
        seeUnknown();
        seeOutside();
        seeFull();
        forget();
        drawnHowOftenAndHowMany();
        drawnSeed();
        drawnOutside();
        drawnState();
        DOC.end();
    }

    private static SignBook fullOfSeen() {
        SignBook x = Checks.bookOf("00;-r0a0f0,-r0");
        for (int time = 0; time < MOST_SEEN; time++) {
            x.see(0, 2, 0, true);
        }
        return x;
    }

    private static void seeHowMuch() {
        DOC.promise(18, "It is SEEN: how much is");
        SignBook x = Checks.bookOf("00;-r0a0f0,-r0");
        DOC.due("the first one", x.see(0, 2, 0, true), 1);
        DOC.due("the same once more", x.see(0, 2, 0, true), 2);
        DOC.due("its contrary", x.see(0, 2, 0, false), 3);
        DOC.due("of another member", x.see(0, 0, 1, false), 4);
        DOC.due("of another class", x.see(1, 0, 2, true), 5);
        DOC.due("the sixth one", x.see(1, 0, 2, true), MOST_SEEN);
        DOC.due("count(7)", x.count(7), MOST_SEEN);
        int[] sorts = {25, 31, 0};
        for (int member = 0; member < 3; member++) {
            DOC.due("sorts of member " + member, x.member(0, member, 4), sorts[member]);
        }
        DOC.due("sorts of class 1", x.member(1, 0, 4), 20);
    }

    private static void seeUnknown() {
        DOC.promise(18, "UNKNOWN: number, member");
        SignBook x = fullOfSeen();
        SignBook y = Checks.bookOf("00;-r0a0f0,-r0");
        for (SignBook one : new SignBook[] {x, y}) {
            for (int what = -1; what <= 3; what++) {
                int asked = what;
                for (int number : Checks.beyond(0, 1)) {
                    DOC.refused(one, "number " + number, () -> one.see(number, 0, asked, true), SignBook.UNKNOWN);
                }
                for (int member : Checks.beyond(0, 2)) {
                    DOC.refused(one, "member " + member, () -> one.see(0, member, asked, false), SignBook.UNKNOWN);
                }
                for (int member : Checks.beyond(0, 0)) {
                    DOC.refused(one, "member " + member + " of class 1", () -> one.see(1, member, asked, true), SignBook.UNKNOWN);
                }
            }
        }
        SignBook four = Checks.bookOf("0000;-r0a0f0,-r0a0f0,-r0a0f0,-r0a0f0");
        for (int wrong : Checks.beyond(0, 3)) {
            DOC.refused(four, "number " + wrong + " of four", () -> four.see(wrong, 0, 0, true), SignBook.UNKNOWN);
        }
        DOC.refused(NO_BOOK, "without a book", () -> NO_BOOK.see(0, 0, 3, true), SignBook.UNKNOWN);
    }

    private static void seeOutside() {
        DOC.promise(18, "OUTSIDE: what (0 to 2)");
        SignBook x = fullOfSeen();
        SignBook y = Checks.bookOf("00;-r0a0f0,-r0");
        for (SignBook one : new SignBook[] {x, y}) {
            for (int what : Checks.beyond(0, 2)) {
                DOC.refused(one, "what " + what, () -> one.see(0, 0, what, true), SignBook.OUTSIDE);
            }
        }
        DOC.due("what 0", y.see(0, 0, 0, true), 1);
        DOC.due("what 2", y.see(0, 0, 2, true), 2);
    }

    private static void seeFull() {
        DOC.promise(18, "FULL");
        SignBook x = fullOfSeen();
        for (int what = 0; what <= 2; what++) {
            int asked = what;
            DOC.refused(x, "the seventh one", () -> x.see(0, 0, asked, true), SignBook.FULL);
            DOC.refused(x, "the seventh one, could not", () -> x.see(0, 2, asked, false), SignBook.FULL);
        }
        x.forget();
        DOC.due("behind forget()", x.see(0, 0, 0, true), 1);
    }

    private static void forget() {
        DOC.promise(19, "Nothing is SEEN any more");
        SignBook none = new SignBook();
        DOC.due("without a book", none.forget(), 0);
        SignBook x = fullOfSeen();
        long before = Checks.bookOf("00;-r0a0f0,-r0").digest();
        DOC.due("six", x.forget(), MOST_SEEN);
        DOC.due("all is as if nothing had been seen", x.digest(), before);
        DOC.due("sorts", x.member(0, 2, 4), 31);
        DOC.due("once more", x.forget(), 0);
        x.see(0, 1, 1, true);
        DOC.due("one", x.forget(), 1);
    }

    private static void drawnHowOftenAndHowMany() {
        DOC.promise(20, "DRAWN: what = 0 how often");
        SignBook x = Checks.bookOf("0;-");
        long before = x.digest();
        for (int seed : new int[] {0, 1, Integer.MAX_VALUE}) {
            for (int times : new int[] {1, 2, MOST_TIMES}) {
                DOC.due("one class suits for itself", x.drawn(times, seed, 0), times);
                DOC.due("one sign each", x.drawn(times, seed, 1), 2 * times);
            }
        }
        DOC.due("drawn() changed the digest", x.digest(), before);
        SignBook two = Checks.bookOf("00;-,-");
        DOC.due("of two that do not suit, how often both are one", two.drawn(MOST_TIMES, 7, 0), likePairs(7));
    }

    private static int likePairs(int first) {
        int like = 0;
        int seed = first;
        for (int time = 0; time < MOST_TIMES; time++) {
            int one = next(seed);
            int other = next(one);
            like += one / 65536 % 2 == other / 65536 % 2 ? 1 : 0;
            seed = other;
        }
        return like;
    }

    private static int next(int seed) {
        BigInteger product = BigInteger.valueOf(1103515245).multiply(BigInteger.valueOf(seed));
        return product.add(BigInteger.valueOf(12345)).mod(BigInteger.ONE.shiftLeft(31)).intValueExact();
    }

    private static void drawnSeed() {
        DOC.promise(20, "DRAWN: what = 0 how often");
        SignBook x = Checks.bookOf("0;-");
        for (int first : new int[] {0, 1, 65535, 65536, 1 << 30, Integer.MAX_VALUE - 1, Integer.MAX_VALUE}) {
            int seed = first;
            for (int times = 1; times <= MOST_TIMES; times++) {
                seed = next(next(seed));
                DOC.due("the seed behind " + times + " from " + first, x.drawn(times, first, 2), seed);
            }
        }
        DOC.due("the seed behind 0 and two draws", x.drawn(1, 0, 2), 1406932606);
    }

    private static void drawnOutside() {
        DOC.promise(20, "OUTSIDE: times (1 to 60), seed (0 at least), what");
        for (SignBook x : new SignBook[] {Checks.bookOf("0;-"), Checks.bookOf("12;-,-"), new SignBook()}) {
            for (int times : Checks.beyond(1, MOST_TIMES)) {
                DOC.refused(x, "times " + times, () -> x.drawn(times, 0, 0), SignBook.OUTSIDE);
            }
            for (int seed : new int[] {-1, -2, Integer.MIN_VALUE}) {
                DOC.refused(x, "seed " + seed, () -> x.drawn(1, seed, 0), SignBook.OUTSIDE);
            }
            for (int what : Checks.beyond(0, 2)) {
                DOC.refused(x, "what " + what, () -> x.drawn(1, 0, what), SignBook.OUTSIDE);
            }
        }
        SignBook x = Checks.bookOf("0;-");
        DOC.due("times 1", x.drawn(1, 0, 0), 1);
        DOC.due("times 60", x.drawn(MOST_TIMES, 0, 0), MOST_TIMES);
    }

    private static void drawnState() {
        DOC.promise(20, "STATE: no BOOK, or each CLASS has PARAMETERS");
        for (String text : new String[] {"1;-", "2;-rx", "1212;-,-,-,-"}) {
            SignBook x = Checks.bookOf(text);
            for (int what = 0; what <= 2; what++) {
                int asked = what;
                DOC.refused(x, "drawn(1, 0, " + what + ") of " + text, () -> x.drawn(1, 0, asked), SignBook.STATE);
            }
        }
        DOC.refused(NO_BOOK, "without a book", () -> NO_BOOK.drawn(MOST_TIMES, Integer.MAX_VALUE, 2), SignBook.STATE);
        DOC.due("the last class has none", Checks.bookOf("2220;-,-,-,-").drawn(1, 0, 2) >= 0 ? 1 : 0, 1);
    }
}
