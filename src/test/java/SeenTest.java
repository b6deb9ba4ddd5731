/** Promises 18 to 20, and what promise 7 tells of what is seen: see, forget, drawn. */
public final class SeenTest {
    private static final Checks CHECKS = new Checks();

    public static void main(String[] args) {
        see();
        sortsAndAsk();
        refusedSee();
        forget();
        drawn();
        drawnByHand("2010;-rxay,-,-rx,<1");
        drawnByHand("0120;-,<0rx,-rxay,<0");
        drawnByHand("1100;-rx,-ax,-,<2");
        refusedDrawn();
        CHECKS.end();
    }

    private static void see() {
        SignBook x = Checks.bookOf("00;-r0a0,-f0");
        CHECKS.due("18: see", x.see(0, 1, 0, true), 1);
        CHECKS.due("18: the same once more", x.see(0, 1, 0, true), 2);
        CHECKS.due("18: of another class", x.see(1, 0, 2, false), 3);
        CHECKS.due("18: its sorts", x.member(0, 1, 4), 21);
        CHECKS.due("18: those of another class", x.member(1, 0, 4), 11);
        CHECKS.due("18: those of another member", x.member(0, 0, 4), 31);
        CHECKS.due("18: count(7)", x.count(7), 3);
        x.change(0, 1, 3);
        CHECKS.due("18: the kind is no matter", x.member(0, 1, 4), 21);
    }

    private static void sorts(String seen, int sorts, int ask) {
        SignBook x = Checks.bookOf("0;-r0");
        for (int at = 0; at < seen.length(); at += 2) {
            x.see(0, 0, seen.charAt(at + 1) - '0', seen.charAt(at) == '+');
        }
        CHECKS.due("7: sorts by " + seen, x.member(0, 0, 4), sorts);
        CHECKS.due("7: ask by " + seen, x.member(0, 0, 5), ask);
    }

    private static void sortsAndAsk() {
        sorts("", 31, 0);
        sorts("+0", 21, 1);
        sorts("-0", 10, 1);
        sorts("+1", 6, 0);
        sorts("-1", 25, 0);
        sorts("+2", 20, 1);
        sorts("-2", 11, 0);
        sorts("+0-1", 17, 2);
        sorts("+0+1", 4, 0);
        sorts("-0-1", 8, 0);
        sorts("+0-1-2", 1, 0);
        sorts("+0-0", 0, SignBook.NONE);
        sorts("-0+2", 0, SignBook.NONE);
        sorts("+0+0", 21, 1);
    }

    private static void refusedSee() {
        SignBook x = Checks.bookOf("00;-r0,-");
        for (int time = 1; time <= 6; time++) {
            CHECKS.due("18: see " + time, x.see(0, 0, 0, true), time);
        }
        CHECKS.refused(x, "18: see 7", () -> x.see(0, 0, 1, false), SignBook.FULL);
        for (int wrong : new int[] {-1, 3, Integer.MIN_VALUE, Integer.MAX_VALUE}) {
            CHECKS.refused(x, "18: what " + wrong, () -> x.see(0, 0, wrong, true), SignBook.OUTSIDE);
            CHECKS.refused(x, "18: number " + wrong, () -> x.see(wrong, 0, 9, true), SignBook.UNKNOWN);
            CHECKS.refused(x, "18: member " + wrong, () -> x.see(0, wrong, 9, true), SignBook.UNKNOWN);
        }
        CHECKS.refused(x, "18: no member", () -> x.see(1, 0, 0, true), SignBook.UNKNOWN);
    }

    private static void forget() {
        SignBook x = Checks.bookOf("0;-r0");
        CHECKS.due("19: nothing", x.forget(), 0);
        x.see(0, 0, 0, true);
        x.see(0, 0, 1, true);
        CHECKS.due("19: two", x.forget(), 2);
        CHECKS.due("19: nothing is left", x.forget(), 0);
        CHECKS.due("19: count(7)", x.count(7), 0);
        CHECKS.due("19: sorts", x.member(0, 0, 4), 31);
        CHECKS.due("19: see", x.see(0, 0, 2, false), 1);
        CHECKS.due("19: sorts by that alone", x.member(0, 0, 4), 11);
    }

    private static void drawn() {
        SignBook x = Checks.bookOf("0012;-,<0r1,-rxa20,<2yf2xv3xy");
        CHECKS.due("20: drawn(20, 1011, 0) by the book", x.drawn(20, 1011, 0), 5);
        x.change(2, 0, 2);
        long before = x.digest();
        CHECKS.due("20: drawn(20, 1011, 0)", x.drawn(20, 1011, 0), 3);
        CHECKS.due("20: drawn(20, 1011, 1)", x.drawn(20, 1011, 1), 96);
        CHECKS.due("20: drawn(3, 1012, 2)", x.drawn(3, 1012, 2), 1350638263);
        CHECKS.due("20: drawn() changed the digest", x.digest(), before);
        SignBook y = Checks.bookOf("0;-");
        CHECKS.due("20: all suit", y.drawn(60, Integer.MAX_VALUE, 0), 60);
        CHECKS.due("20: one sign each", y.drawn(60, 0, 1), 120);
        CHECKS.due("20: one draw a sign", y.drawn(1, 0, 2), Drawing.next(Drawing.next(0)));
    }

    /** The draws of pairs with arguments of arguments, one by one. */
    private static void drawnByHand(String text) {
        for (int first = 0; first < 2000; first++) {
            SignBook x = Checks.bookOf(text);
            Drawing drawing = new Drawing(text.substring(0, text.indexOf(';')), first);
            String one = drawing.type();
            String other = drawing.type();
            CHECKS.due("20: signs of " + one + " and " + other, x.drawn(1, first, 1), one.length() + other.length());
            CHECKS.due("20: the seed behind them", x.drawn(1, first, 2), drawing.seed);
            Checks.typeInto(x, 0, one);
            Checks.typeInto(x, 1, other);
            CHECKS.due("20: " + one + " for " + other, x.drawn(1, first, 0), x.suits(0, 1));
        }
    }

    private static void refusedDrawn() {
        SignBook x = Checks.bookOf("0;-");
        SignBook none = new SignBook();
        SignBook full = Checks.bookOf("12;-,-");
        for (SignBook one : new SignBook[] {x, none, full}) {
            for (int times : new int[] {0, 61, -1, Integer.MIN_VALUE, Integer.MAX_VALUE}) {
                CHECKS.refused(one, "20: times " + times, () -> one.drawn(times, 1, 0), SignBook.OUTSIDE);
            }
            for (int seed : new int[] {-1, Integer.MIN_VALUE}) {
                CHECKS.refused(one, "20: seed " + seed, () -> one.drawn(1, seed, 0), SignBook.OUTSIDE);
            }
            for (int what : new int[] {-1, 3, Integer.MIN_VALUE, Integer.MAX_VALUE}) {
                CHECKS.refused(one, "20: what " + what, () -> one.drawn(1, 1, what), SignBook.OUTSIDE);
            }
        }
        CHECKS.refused(none, "20: no book", () -> none.drawn(1, 1, 0), SignBook.STATE);
        CHECKS.refused(full, "20: all have parameters", () -> full.drawn(1, 1, 0), SignBook.STATE);
    }
}
