/** Promises 9 to 12: change, type, read, lift. */
public final class DoneTest {
    private static final Checks CHECKS = new Checks();
    private static final int[] NO_SLOTS = {-1, 8, Integer.MIN_VALUE, Integer.MAX_VALUE};

    public static void main(String[] args) {
        change();
        type();
        typesThatAreNone();
        read();
        readTooLong();
        lift();
        liftTooLong();
        CHECKS.end();
    }

    private static void change() {
        SignBook x = Checks.bookOf("11;-rx,-r0xh0x");
        CHECKS.due("9: change(0, 0, 1)", x.change(0, 0, 1), 0);
        CHECKS.due("9: the kind", x.member(0, 0, 0), 1);
        CHECKS.due("9: the way", x.about(0, 3), 2);
        CHECKS.due("9: the way of another class", x.about(1, 3), 2);
        CHECKS.due("9: change(1, 1, 0)", x.change(1, 1, 1), 3);
        CHECKS.due("9: the way then", x.about(1, 3), 3);
        CHECKS.due("9: change(0, 0, 3)", x.change(0, 0, 3), 1);
        CHECKS.due("9: the way of none", x.about(1, 3), 0);
        CHECKS.due("9: change to the same", x.change(0, 0, 3), 3);
        CHECKS.due("9: change(0, 0, 4)", x.change(0, 0, 4), 3);
        CHECKS.due("9: change(0, 0, 2)", x.change(0, 0, 2), 4);
        CHECKS.due("9: the way of a field", x.about(0, 3), 3);
        CHECKS.due("9: change(0, 0, 0)", x.change(0, 0, 0), 2);
        CHECKS.due("9: the way of a plain one", x.about(0, 3), 1);
        for (int wrong : new int[] {-1, 2, Integer.MIN_VALUE, Integer.MAX_VALUE}) {
            CHECKS.refused(x, "9: number " + wrong, () -> x.change(wrong, 0, 9), SignBook.UNKNOWN);
            CHECKS.refused(x, "9: member " + wrong, () -> x.change(1, wrong, 9), SignBook.UNKNOWN);
        }
        for (int kind : new int[] {-1, 5, Integer.MIN_VALUE, Integer.MAX_VALUE}) {
            CHECKS.refused(x, "9: kind " + kind, () -> x.change(1, 1, kind), SignBook.OUTSIDE);
        }
    }

    private static void type() {
        SignBook x = Checks.bookOf("012;-,-,-");
        CHECKS.due("10: type(0)", Checks.typeInto(x, 0, "0"), 1);
        CHECKS.due("10: the page is empty", x.count(8), 0);
        CHECKS.due("10: type(7)", Checks.typeInto(x, 7, "21020"), SignBook.STATE);
        CHECKS.due("10: the page is as it was", x.count(8), 5);
        CHECKS.due("10: type(7)", Checks.typeInto(x, 7, "210200"), 6);
        CHECKS.slot(x, 7, "210200");
        CHECKS.slot(x, 0, "0");
        CHECKS.due("10: type(7) once more", Checks.typeInto(x, 7, "10"), 2);
        CHECKS.slot(x, 7, "10");
        String fifteen = "11111111111111" + "0";
        CHECKS.due("10: 15 signs", Checks.typeInto(x, 1, fifteen), 15);
        CHECKS.slot(x, 1, fifteen);
        Checks.write(x, "1" + fifteen);
        CHECKS.refused(x, "10: 16 signs", () -> x.type(1), SignBook.FULL);
        Checks.write(x, "1".repeat(89) + "0");
        CHECKS.refused(x, "10: 90 signs", () -> x.type(1), SignBook.FULL);
        CHECKS.slot(x, 1, fifteen);
    }

    private static void typesThatAreNone() {
        SignBook x = Checks.bookOf("012;-,-,-");
        for (String text : new String[] {"", "1", "00", "100", "20", "3", "x", "1x", "0;", "-", "/", "1".repeat(20)}) {
            Checks.write(x, text);
            CHECKS.refused(x, "10: type(0) of " + text, () -> x.type(0), SignBook.STATE);
            for (int slot : NO_SLOTS) {
                CHECKS.refused(x, "10: slot " + slot, () -> x.type(slot), SignBook.UNKNOWN);
            }
        }
        SignBook y = new SignBook();
        Checks.write(y, "0".repeat(20));
        CHECKS.refused(y, "10: no book", () -> y.type(0), SignBook.STATE);
        CHECKS.refused(y, "10: no book, no slot", () -> y.type(8), SignBook.UNKNOWN);
    }

    private static void read() {
        SignBook x = Checks.bookOf("012;-,-rxf1xv0,-r2yxax");
        Checks.typeInto(x, 0, "110");
        Checks.typeInto(x, 1, "2010");
        CHECKS.due("11: read x", x.read(0, 0, 2), 2);
        CHECKS.slot(x, 2, "10");
        CHECKS.due("11: read a field", x.read(0, 1, 3), 3);
        CHECKS.slot(x, 3, "110");
        CHECKS.due("11: read a final one", x.read(0, 2, 4), 1);
        CHECKS.slot(x, 4, "0");
        CHECKS.due("11: read both arguments", x.read(1, 0, 1), 4);
        CHECKS.slot(x, 1, "2100");
        CHECKS.refused(x, "11: a taken one", () -> x.read(1, 1, 5), SignBook.STATE);
        CHECKS.refused(x, "11: a taken one, no slot", () -> x.read(1, 1, 8), SignBook.UNKNOWN);
        CHECKS.refused(x, "11: an empty slot", () -> x.read(5, 0, 5), SignBook.UNKNOWN);
        CHECKS.refused(x, "11: no member", () -> x.read(1, 2, 5), SignBook.UNKNOWN);
        CHECKS.refused(x, "11: no member of a class without", () -> x.read(4, 0, 5), SignBook.UNKNOWN);
        for (int slot : NO_SLOTS) {
            CHECKS.refused(x, "11: from " + slot, () -> x.read(slot, 0, 0), SignBook.UNKNOWN);
            CHECKS.refused(x, "11: member " + slot, () -> x.read(0, slot, 0), SignBook.UNKNOWN);
            CHECKS.refused(x, "11: to " + slot, () -> x.read(0, 0, slot), SignBook.UNKNOWN);
        }
        x.change(0, 0, 3);
        x.change(1, 0, 3);
        CHECKS.refused(x, "11: a hidden one", () -> x.read(0, 0, 5), SignBook.STATE);
        x.change(1, 0, 2);
        CHECKS.due("11: as a field", x.read(0, 0, 7), 2);
        CHECKS.slot(x, 7, "10");
    }

    private static void readTooLong() {
        SignBook x = Checks.bookOf("02;-,-r1xxr1x1xxf1y1y1y1yy");
        Checks.typeInto(x, 0, "11001000");
        CHECKS.due("11: " + Checks.signs(x, 0), x.count(6), 0);
        Checks.typeInto(x, 0, "1110010100");
        CHECKS.due("11: none yet", x.count(6), 0);
        Checks.typeInto(x, 0, "110101000");
        CHECKS.due("11: the first argument has seven", x.count(6), 9);
        CHECKS.due("11: 15 signs", x.read(0, 0, 1), 15);
        CHECKS.slot(x, 1, "1" + "1010100" + "1010100");
        CHECKS.refused(x, "11: above 15 signs", () -> x.read(0, 1, 1), SignBook.FULL);
        CHECKS.refused(x, "11: above 15 signs into itself", () -> x.read(0, 1, 0), SignBook.FULL);
        CHECKS.due("11: nine signs", x.read(0, 2, 2), 9);
        CHECKS.slot(x, 2, "101010100");
        x.change(1, 1, 1);
        CHECKS.refused(x, "11: against, and above 15 signs", () -> x.read(0, 1, 1), SignBook.STATE);
    }

    private static void lift() {
        SignBook x = Checks.bookOf("0122;-,-,<1y,<2y0");
        Checks.typeInto(x, 0, "3" + "0" + "10");
        CHECKS.due("12: lift(0, 1)", x.lift(0, 1), 4);
        CHECKS.slot(x, 1, "2100");
        CHECKS.slot(x, 0, "3010");
        CHECKS.due("12: lift(1, 1)", x.lift(1, 1), 2);
        CHECKS.slot(x, 1, "10");
        CHECKS.refused(x, "12: nothing is above", () -> x.lift(1, 0), SignBook.NONE);
        CHECKS.refused(x, "12: an empty slot", () -> x.lift(2, 0), SignBook.UNKNOWN);
        for (int slot : NO_SLOTS) {
            CHECKS.refused(x, "12: from " + slot, () -> x.lift(slot, 0), SignBook.UNKNOWN);
            CHECKS.refused(x, "12: to " + slot, () -> x.lift(0, slot), SignBook.UNKNOWN);
            CHECKS.refused(x, "12: nothing above, to " + slot, () -> x.lift(1, slot), SignBook.UNKNOWN);
        }
        SignBook y = Checks.bookOf("10;-,<01");
        Checks.typeInto(y, 3, "1");
        CHECKS.due("12: a class put into what is above it", y.lift(3, 3), 2);
        CHECKS.slot(y, 3, "01");
    }

    private static void liftTooLong() {
        SignBook x = Checks.bookOf("021;-,-,<1xx");
        Checks.typeInto(x, 0, "2" + "1010100");
        CHECKS.due("12: 15 signs", x.lift(0, 1), 15);
        Checks.typeInto(x, 0, "2" + "21010100");
        CHECKS.refused(x, "12: above 15 signs", () -> x.lift(0, 1), SignBook.FULL);
    }
}
