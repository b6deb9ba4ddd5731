/** Promises 13 to 17: rounds, sign, suits, stores, hide. */
public final class WouldTest {
    private static final Checks CHECKS = new Checks();
    private static final int[] NO_SLOTS = {-1, 8, Integer.MIN_VALUE, Integer.MAX_VALUE};

    public static void main(String[] args) {
        rounds();
        sign();
        suitsByWays();
        suitsOfTheDeepest();
        suitsByWhatIsAbove();
        suitsOfWrongSlots();
        stores();
        storesTooLong();
        hide();
        hideMany();
        hideTwelveTimes();
        CHECKS.end();
    }

    private static void rounds(String text, int want) {
        CHECKS.due("13: rounds() of " + text, Checks.bookOf(text).rounds(), want);
    }

    private static void rounds() {
        CHECKS.due("13: no book", new SignBook().rounds(), SignBook.STATE);
        rounds("0;-r0", 0);
        rounds("1;-", 0);
        rounds("1;-hx", 0);
        rounds("1;-r0x", 0);
        rounds("1;-rx", 1);
        rounds("1;-rxax", 1);
        // A round is by the one ahead, in whatever order the classes stand.
        rounds("11;-r1x,-rx", 2);
        rounds("11;-rx,-r0x", 2);
        rounds("1111;-r1x,-r2x,-r3x,-rx", 4);
        rounds("1111;-rx,<0x,<1x,<2x", 4);
        rounds("1111;-a1x,-a2x,-a3x,-fx", 4);
        rounds("1;-rxa0x", 2);
        rounds("1;-axa0x", 2);
        rounds("2;-rxa0yx", 2);
        rounds("1111;-r1x,-r2x,-r3x,-rxa0x", 8);
        rounds("0222;-,-r10xr2y0,-r20xr3y0,-r30xrya1y0", 12);
        rounds("1222;-r1x0x,-r1xxr2y0y,-r2xxr3y0y,-r3xxrya0y", 11);
        SignBook x = Checks.bookOf("11;-r1x,-rx");
        x.change(0, 0, 3);
        CHECKS.due("13: rounds() after a change", x.rounds(), 1);
    }

    private static void sign() {
        SignBook x = Checks.bookOf("012;-,-,-");
        Checks.typeInto(x, 2, "21020" + "0");
        int[] signs = {2, 1, 0, 2, 0, 0};
        for (int at = 0; at < signs.length; at++) {
            CHECKS.due("14: sign(2, " + at + ")", x.sign(2, at), signs[at]);
        }
        for (int number : new int[] {-1, 6, 15, Integer.MIN_VALUE, Integer.MAX_VALUE}) {
            CHECKS.refused(x, "14: number " + number, () -> x.sign(2, number), SignBook.UNKNOWN);
        }
        for (int slot : NO_SLOTS) {
            CHECKS.refused(x, "14: slot " + slot, () -> x.sign(slot, 0), SignBook.UNKNOWN);
        }
        CHECKS.refused(x, "14: an empty slot", () -> x.sign(3, 0), SignBook.UNKNOWN);
        Checks.typeInto(x, 2, "0");
        CHECKS.refused(x, "14: behind a shorter one", () -> x.sign(2, 1), SignBook.UNKNOWN);
    }

    private static void suits(SignBook x, String one, String other, int want) {
        CHECKS.due("15: type " + one, Checks.typeInto(x, 0, one), one.length());
        CHECKS.due("15: type " + other, Checks.typeInto(x, 1, other), other.length());
        long before = x.digest();
        CHECKS.due("15: " + one + " for " + other, x.suits(0, 1), want);
        CHECKS.due("15: suits() changed the digest", x.digest(), before);
    }

    private static void suitsByWays() {
        String[] kinds = {"h", "r", "a", "f"};
        int[] lessForMore = {1, 1, 0, 0};
        int[] moreForLess = {1, 0, 1, 0};
        for (int way = 0; way < 4; way++) {
            SignBook x = Checks.bookOf("001;-,<0,-" + kinds[way] + "x");
            suits(x, "21", "20", lessForMore[way]);
            suits(x, "20", "21", moreForLess[way]);
            suits(x, "20", "20", 1);
            suits(x, "20", "0", 0);
            // Against against is with.
            suits(x, "221", "220", way == 0 || way == 1 || way == 2 ? 1 : 0);
            suits(x, "220", "221", way == 0 ? 1 : 0);
            suits(x, "2221", "2220", lessForMore[way]);
        }
        SignBook both = Checks.bookOf("002;-,<0,-rxay");
        suits(both, "210", "201", 1);
        suits(both, "211", "200", 0);
        suits(both, "200", "211", 0);
        // Parameters that go no way are not looked at, not even in arguments that go both.
        SignBook free = Checks.bookOf("0011;-,<0,-,-fx");
        suits(free, "320", "321", 1);
        suits(free, "30", "31", 0);
        suits(free, "3320", "3321", 1);
        suits(free, "320", "330", 0);
    }

    private static void suitsOfTheDeepest() {
        String deep = "2".repeat(14);
        for (String kind : new String[] {"r", "a", "f"}) {
            SignBook x = Checks.bookOf("001;-,<0,-" + kind + "x");
            suits(x, deep + "1", deep + "0", kind.equals("f") ? 0 : 1);
            suits(x, deep + "0", deep + "1", 0);
            suits(x, deep + "0", deep + "0", 1);
        }
    }

    private static void suitsByWhatIsAbove() {
        SignBook x = Checks.bookOf("0122;-,-rx,<1y,<2y0");
        suits(x, "3" + "0" + "10", "2" + "10" + "0", 1);
        suits(x, "3" + "0" + "10", "10", 1);
        suits(x, "2" + "10" + "0", "3" + "0" + "10", 0);
        suits(x, "10", "0", 0);
        suits(x, "0", "10", 0);
        suits(x, "2" + "0" + "10", "110", 1);
        suits(x, "2" + "0" + "10", "10", 0);
        suits(x, "2" + "0" + "3010", "110", 1);
        SignBook turned = Checks.bookOf("0022;-,<0,-rxry,<2yx");
        suits(turned, "301", "210", 1);
        suits(turned, "310", "201", 1);
        suits(turned, "301", "200", 1);
        suits(turned, "301", "201", 0);
        suits(turned, "310", "210", 0);
        SignBook own = Checks.bookOf("100;-rx,<01,<1");
        suits(own, "1", "01", 1);
        suits(own, "1", "001", 1);
        suits(own, "2", "0000001", 1);
        suits(own, "1", "02", 0);
        SignBook against = Checks.bookOf("100;-ax,<01,<1");
        suits(against, "1", "02", 1);
        suits(against, "2", "01", 1);
        suits(against, "1", "001", 0);
        // What is above has more signs than a slot could hold: it is no matter.
        SignBook twice = Checks.bookOf("0212;-,-rxry,<1xx,<0");
        suits(twice, "2" + "3030303030300", "100", 1);
        suits(twice, "2" + "1010101010100", "1" + "1010100" + "1010100", 0);
        CHECKS.refused(twice, "15: a slot could not hold it", () -> twice.lift(0, 2), SignBook.FULL);
    }

    private static void suitsOfWrongSlots() {
        SignBook x = Checks.bookOf("0;-");
        Checks.typeInto(x, 0, "0");
        for (int slot : NO_SLOTS) {
            CHECKS.refused(x, "15: one " + slot, () -> x.suits(slot, 0), SignBook.UNKNOWN);
            CHECKS.refused(x, "15: other " + slot, () -> x.suits(0, slot), SignBook.UNKNOWN);
        }
        CHECKS.refused(x, "15: an empty one", () -> x.suits(1, 0), SignBook.UNKNOWN);
        CHECKS.refused(x, "15: an empty other one", () -> x.suits(0, 1), SignBook.UNKNOWN);
    }

    private static void stores() {
        SignBook x = Checks.bookOf("001;-,<0,-axf2xrx");
        Checks.typeInto(x, 0, "0");
        Checks.typeInto(x, 1, "1");
        Checks.typeInto(x, 2, "20");
        Checks.typeInto(x, 3, "21");
        CHECKS.due("16: a 1 for a 0", x.stores(1, 2, 0), 1);
        CHECKS.due("16: a 0 for a 1", x.stores(0, 3, 0), 0);
        CHECKS.due("16: a 0 for a 0", x.stores(0, 2, 0), 1);
        CHECKS.due("16: a field", x.stores(2, 2, 1), 1);
        CHECKS.due("16: another one", x.stores(3, 2, 1), 0);
        CHECKS.refused(x, "16: it does not go against", () -> x.stores(0, 2, 2), SignBook.NONE);
        x.change(2, 0, 3);
        CHECKS.refused(x, "16: a hidden one", () -> x.stores(0, 2, 0), SignBook.NONE);
        x.change(2, 0, 4);
        CHECKS.refused(x, "16: a final one", () -> x.stores(0, 2, 0), SignBook.NONE);
        CHECKS.refused(x, "16: no member", () -> x.stores(0, 2, 3), SignBook.UNKNOWN);
        CHECKS.refused(x, "16: no member of a class without", () -> x.stores(0, 0, 0), SignBook.UNKNOWN);
        CHECKS.refused(x, "16: what is empty", () -> x.stores(4, 2, 2), SignBook.UNKNOWN);
        CHECKS.refused(x, "16: in is empty", () -> x.stores(0, 4, 2), SignBook.UNKNOWN);
        for (int wrong : NO_SLOTS) {
            CHECKS.refused(x, "16: what " + wrong, () -> x.stores(wrong, 2, 1), SignBook.UNKNOWN);
            CHECKS.refused(x, "16: in " + wrong, () -> x.stores(0, wrong, 1), SignBook.UNKNOWN);
            CHECKS.refused(x, "16: member " + wrong, () -> x.stores(0, 2, wrong), SignBook.UNKNOWN);
        }
    }

    private static void storesTooLong() {
        SignBook x = Checks.bookOf("02;-,-a1xxa1x1xxr1x1xx");
        Checks.typeInto(x, 0, "1" + "1010100" + "0");
        Checks.typeInto(x, 1, "1" + "1010100" + "1010100");
        CHECKS.due("16: 15 signs", x.stores(1, 0, 0), 1);
        CHECKS.refused(x, "16: above 15 signs", () -> x.stores(1, 0, 1), SignBook.FULL);
        CHECKS.refused(x, "16: above 15 signs, what is empty", () -> x.stores(2, 0, 1), SignBook.UNKNOWN);
        CHECKS.refused(x, "16: it does not go against", () -> x.stores(1, 0, 2), SignBook.NONE);
    }

    private static void hide(String text, int number, int parameter, int way, int many, int which) {
        SignBook x = Checks.bookOf(text);
        String call = "17: hide(" + number + ", " + parameter + ", " + way + ") of " + text;
        CHECKS.due(call, x.hide(number, parameter, way, 0), many);
        CHECKS.due(call + ": which", x.hide(number, parameter, way, 1), which);
        CHECKS.due(call + ": kinds are as they were", x.about(number, 3 + parameter) & way, many == 0 ? 0 : way);
        CHECKS.due("17: count(10)", x.count(10), 2);
    }

    private static void hide() {
        hide("1;-rx", 0, 0, 1, 1, 1);
        hide("1;-rx", 0, 0, 2, 0, 0);
        hide("1;-r0xrx", 0, 0, 1, 1, 2);
        hide("1;-rxaxfx", 0, 0, 1, 2, 5);
        hide("1;-rxaxfx", 0, 0, 2, 2, 6);
        hide("1;-rxrxvx", 0, 0, 1, 3, 7);
        hide("1;-hxrxhx", 0, 0, 1, 1, 2);
        // Through another class: the least bits of as many.
        hide("11;-r1x,-rx", 0, 0, 1, 1, 1);
        hide("11;-rx,-r0x", 1, 0, 1, 1, 1);
        hide("11;-r1xa1x,-rx", 0, 0, 1, 1, 1);
        hide("11;-r1xr1x,-rx", 0, 0, 1, 1, 8);
        hide("12;-rx,-r0yax", 1, 1, 1, 1, 1);
        hide("1112;-,-,-,-r0yaxry", 3, 1, 1, 1, 2048);
        // What is above cannot be hidden, but what makes it go a way can be.
        hide("11;-rx,<0x", 1, 0, 1, 1, 1);
        SignBook x = Checks.bookOf("0012;-,<0r1,-rxa20,<2yf2xv3xy");
        for (int wrong : new int[] {-1, 4, Integer.MIN_VALUE, Integer.MAX_VALUE}) {
            CHECKS.refused(x, "17: number " + wrong, () -> x.hide(wrong, 0, 9, 9), SignBook.UNKNOWN);
            CHECKS.refused(x, "17: parameter " + wrong, () -> x.hide(3, wrong, 9, 9), SignBook.UNKNOWN);
        }
        CHECKS.refused(x, "17: no second one", () -> x.hide(2, 1, 1, 0), SignBook.UNKNOWN);
        CHECKS.refused(x, "17: no first one", () -> x.hide(0, 0, 1, 0), SignBook.UNKNOWN);
        for (int wrong : new int[] {-1, 3, Integer.MIN_VALUE, Integer.MAX_VALUE}) {
            CHECKS.refused(x, "17: way " + wrong, () -> x.hide(2, 0, wrong, 0), SignBook.OUTSIDE);
            CHECKS.refused(x, "17: what " + wrong, () -> x.hide(2, 0, 1, wrong), SignBook.OUTSIDE);
        }
        CHECKS.refused(x, "17: way 0", () -> x.hide(2, 0, 0, 0), SignBook.OUTSIDE);
        CHECKS.refused(x, "17: what 2", () -> x.hide(2, 0, 1, 2), SignBook.OUTSIDE);
    }

    private static void hideMany() {
        // Class 1 takes x from itself and from three classes that each go with on their own.
        hide("11;-rxrxrx,-rxrxr0x", 1, 0, 1, 3, 8 + 16 + 32);
        hide("111;-rxrxrx,-rxrxrx,<0xr1x", 2, 0, 1, SignBook.NONE, SignBook.NONE);
        hide("111;-rxrxrx,-rxrxrx,-r0xr1x", 2, 0, 1, 2, 64 + 128);
        hide("11;-rxrx,<0xrx", 1, 0, 1, 3, 1 + 2 + 8);
    }

    private static void hideTwelveTimes() {
        SignBook x = Checks.bookOf("111;-rxrxrx,-rxrxrx,<0xr1x");
        for (int time = 0; time < 12; time++) {
            int want = time < 6 ? SignBook.NONE : 0;
            CHECKS.due("17: time " + time, x.hide(2, 0, time < 6 ? 1 : 2, time % 2), want);
            CHECKS.due("17: count(10)", x.count(10), time + 1);
        }
        CHECKS.refused(x, "17: time 13", () -> x.hide(2, 0, 1, 0), SignBook.STATE);
        CHECKS.refused(x, "17: time 13, no class", () -> x.hide(3, 0, 1, 0), SignBook.UNKNOWN);
        CHECKS.refused(x, "17: time 13, no way", () -> x.hide(2, 0, 3, 0), SignBook.OUTSIDE);
        CHECKS.refused(x, "17: time 13, what", () -> x.hide(2, 0, 1, 2), SignBook.OUTSIDE);
        Checks.write(x, "1;-rx");
        CHECKS.due("17: book()", x.book(), 1);
        CHECKS.refused(x, "17: time 13 in another book", () -> x.hide(0, 0, 1, 0), SignBook.STATE);
    }
}
