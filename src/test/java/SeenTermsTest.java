/** The sentences of part 3 of the terms, at their edges: what is seen, what is drawn, images, refusals. */
public final class SeenTermsTest {
    private static final Sentences DOC = Sentences.ofTerms(3);
    private static final int[] SEEDS = {0, 1, 2, 65535, 65536, 1 << 30, Integer.MAX_VALUE - 1, Integer.MAX_VALUE};
    private static final String[] DRAWN_BOOKS = {"0;-", "00;-,<0", "02;-,-rxay", "0010;-,<0,-ax,<1", "2010;-rxay,-,-rx,<1",
        "1200;-rx,<0yrxay,-,<2", "2220;-rx,-ay,-fx,-"};

    public static void main(String[] args) {
        seenSixAtMost();
        sorts();
        ask();
        askNone();
        firstForSecond();
        signsAllTogether();
        classesAndArguments();
        argumentsOfArguments();
        nextSeed();
        restOfDraw();
        image();
        firstOfSeveralRefusals();
        refusalsChangeNothing();
        DOC.end();
    }

    private static void seenSixAtMost() {
        DOC.term(18, "SEEN (6 at most)");
        SignBook x = Checks.bookOf("0;-r0a0f0");
        for (int much = 1; much <= 6; much++) {
            DOC.due("see() " + much, x.see(0, much % 3, much % 3, true), much);
        }
        DOC.refused(x, "see() 7", () -> x.see(0, 0, 0, true), SignBook.FULL);
        // What each kind could: go with, go against, be a field.
        int[] could = {1 + 4 + 16, 2 + 4, 4 + 16};
        for (int what = 0; what <= 2; what++) {
            SignBook one = Checks.bookOf("0;-h0");
            one.see(0, 0, what, true);
            DOC.due("could " + what, one.member(0, 0, 4), could[what]);
            one.forget();
            one.see(0, 0, what, false);
            DOC.due("could not " + what, one.member(0, 0, 4), 31 - could[what]);
        }
    }

    /** Of a member that is of each kind in turn: its kind is not known, and does not count. */
    private static void sorts() {
        DOC.term(7, "SORTS (KINDS 0 to 4) it can be of");
        for (int kind = 0; kind <= 4; kind++) {
            SignBook x = Checks.bookOf("0;-r0r0");
            x.change(0, 0, kind);
            DOC.due("nothing is seen", x.member(0, 0, 4), 31);
            x.see(0, 0, 0, true);
            x.see(0, 1, 0, false);
            DOC.due("one is seen", x.member(0, 0, 4), 21);
            x.see(0, 0, 2, true);
            DOC.due("two are seen", x.member(0, 0, 4), 20);
            x.see(0, 0, 1, true);
            DOC.due("three are seen", x.member(0, 0, 4), 4);
            x.see(0, 0, 1, false);
            DOC.due("both of one", x.member(0, 0, 4), 0);
            DOC.due("of another member", x.member(0, 1, 4), 10);
        }
    }

    private static void asks(String seen, int want) {
        SignBook x = Checks.bookOf("0;-r0");
        for (int at = 0; at < seen.length(); at += 2) {
            x.see(0, 0, seen.charAt(at + 1) - '0', seen.charAt(at) == '+');
        }
        DOC.due("ask by " + seen, x.member(0, 0, 5), want);
    }

    private static void ask() {
        DOC.term(7, "ASK for a MEMBER: which of these (0 to 2)");
        // 5 kinds: 0 leaves 3 at worst, 1 leaves 3, 2 leaves 3: of like ones the least.
        asks("", 0);
        // 0, 2, 4 are left: 0 leaves 3, 1 leaves 2, 2 leaves 2.
        asks("+0", 1);
        // 1, 3 are left: 0 leaves 2, 1 leaves 1.
        asks("-0", 1);
        // 1, 2 are left: 0 leaves 1.
        asks("+1", 0);
        // 0, 4 are left: 0 and 1 leave 2, 2 leaves 1.
        asks("+0-1", 2);
        // 2, 4 are left: 0 leaves 2, 1 leaves 1.
        asks("+2", 1);
        // One is left, whatever is asked.
        asks("+0+1", 0);
        asks("-0-1", 0);
    }

    private static void askNone() {
        DOC.term(7, "none, if there are none");
        asks("+0-0", SignBook.NONE);
        asks("+1-1", SignBook.NONE);
        asks("+2-2", SignBook.NONE);
        asks("-0+2", SignBook.NONE);
        asks("-0-1+2", SignBook.NONE);
    }

    private static String countsOf(String text) {
        return text.substring(0, text.indexOf(';'));
    }

    private static void firstForSecond() {
        DOC.term(20, "DRAWN by a SEED");
        for (String text : DRAWN_BOOKS) {
            for (int seed : SEEDS) {
                SignBook x = Checks.bookOf(text);
                Drawing drawing = new Drawing(countsOf(text), seed);
                int often = 0;
                for (int times = 1; times <= 60; times++) {
                    Checks.typeInto(x, 0, drawing.type());
                    Checks.typeInto(x, 1, drawing.type());
                    often += x.suits(0, 1);
                    DOC.due("drawn(" + times + ", " + seed + ", 0) of " + text, x.drawn(times, seed, 0), often);
                }
            }
        }
        // As they would be: slots, the page and the seed of the next call are as they were.
        SignBook x = Checks.bookOf("00;-,<0");
        Checks.typeInto(x, 0, "1");
        x.letter('z');
        long before = x.digest();
        int often = x.drawn(60, 5, 0);
        DOC.due("the digest", x.digest(), before);
        DOC.due("once more", x.drawn(60, 5, 0), often);
    }

    private static void signsAllTogether() {
        DOC.term(20, "how many signs they have, all together");
        for (String text : DRAWN_BOOKS) {
            for (int seed : SEEDS) {
                SignBook x = Checks.bookOf(text);
                Drawing drawing = new Drawing(countsOf(text), seed);
                int signs = 0;
                for (int times = 1; times <= 60; times++) {
                    signs += drawing.type().length() + drawing.type().length();
                    DOC.due("drawn(" + times + ", " + seed + ", 1) of " + text, x.drawn(times, seed, 1), signs);
                }
            }
        }
    }

    /** How many draws there were is told by the seed: one for each sign. */
    private static void classesAndArguments() {
        DOC.term(20, "A TYPE is a CLASS by a DRAW of how many there are");
        for (String text : DRAWN_BOOKS) {
            SignBook x = Checks.bookOf(text);
            for (int seed : SEEDS) {
                int then = seed;
                for (int sign = x.drawn(60, seed, 1); sign > 0; sign--) {
                    then = Drawing.next(then);
                }
                DOC.due("drawn(60, " + seed + ", 2) of " + text, x.drawn(60, seed, 2), then);
            }
        }
        // From 2 the draws of two are 0, 1, 1, then one of one: 0 and 110.
        SignBook x = Checks.bookOf("01;-,-");
        DOC.due("signs by hand", x.drawn(1, 2, 1), 4);
        DOC.due("the seed by hand", x.drawn(1, 2, 2), 846338638);
    }

    /** Each argument of an argument is class 3, the one that has none: no type has more than seven signs. */
    private static void argumentsOfArguments() {
        DOC.term(20, "the ARGUMENTS of ARGUMENTS are CLASSES without PARAMETERS");
        String text = "2220;-fxfy,-fxfy,-fxfy,-";
        SignBook x = Checks.bookOf(text);
        int longest = 0;
        for (int seed = 0; seed < 500; seed++) {
            int signs = x.drawn(1, seed, 1);
            longest = Math.max(longest, signs);
            Drawing drawing = new Drawing(countsOf(text), seed);
            String one = drawing.type();
            String other = drawing.type();
            DOC.due(one + " and " + other, signs, one.length() + other.length());
            DOC.due(one + " for " + other, x.drawn(1, seed, 0), one.equals(other) ? 1 : 0);
        }
        DOC.due("the longest two", longest, 14);
    }

    private static void nextSeed() {
        DOC.term(20, "DRAWS: the next SEED each time");
        SignBook x = Checks.bookOf("0;-");
        int[] from = {0, 1, 2, Integer.MAX_VALUE};
        int[] behindTwo = {1406932606, 377401575, 1495354192, 288979989};
        for (int at = 0; at < from.length; at++) {
            DOC.due("from " + from[at], x.drawn(1, from[at], 2), behindTwo[at]);
        }
    }

    private static void restOfDraw() {
        DOC.term(20, "then that by 65536 (rounded down), its rest");
        // From 1 the seeds by 65536 are 16838, 5758, 10113, 17515.
        DOC.due("0 and 0 of two", Checks.bookOf("01;-,-").drawn(1, 1, 1), 2);
        DOC.due("2 (1, 0) and 1 of three", Checks.bookOf("002;-,-,-").drawn(1, 1, 1), 4);
        DOC.due("2 and 2 of four", Checks.bookOf("2102;-,-,-,-").drawn(1, 1, 1), 2);
        DOC.due("2 suits for 2", Checks.bookOf("0000;-,-,-,-").drawn(1, 1, 0), 1);
        // From 2 they are 908, 22817.
        DOC.due("0 does not suit for 1", Checks.bookOf("0000;-,-,-,-").drawn(1, 2, 0), 0);
    }

    private static void image() {
        DOC.term(22, "An IMAGE keeps KINDS, SLOTS, SEEN");
        SignBook x = Checks.bookOf("01;-,-rx");
        x.change(1, 0, 1);
        Checks.typeInto(x, 7, "10");
        x.see(1, 0, 1, true);
        Checks.write(x, "abc");
        x.image();
        x.change(1, 0, 2);
        Checks.typeInto(x, 7, "0");
        x.forget();
        x.see(1, 0, 0, false);
        x.see(1, 0, 1, false);
        Checks.write(x, "de");
        x.hide(1, 0, 1, 0);
        x.restore();
        DOC.due("the kind", x.member(1, 0, 0), 1);
        DOC.due("the way", x.about(1, 3), 2);
        DOC.slot(x, 7, "10");
        DOC.due("how much is seen", x.count(7), 1);
        DOC.due("what is seen", x.member(1, 0, 4), 6);
        DOC.due("not the page", x.count(8), 2);
        DOC.due("not how often a book was read", x.count(9), 1);
        DOC.due("not how often hide() was done", x.count(10), 1);
    }

    private static SignBook fullOfAll() {
        SignBook x = Checks.bookOf("012;-a0,-rxa11xr11x,<1xrxfy");
        Checks.typeInto(x, 0, "1".repeat(14) + "0");
        Checks.typeInto(x, 1, "2" + "10" + "0");
        Checks.typeInto(x, 2, "0");
        for (int time = 0; time < 6; time++) {
            x.see(1, 0, 0, true);
        }
        for (int time = 0; time < 12; time++) {
            x.hide(1, 0, 1, 0);
        }
        x.image();
        Checks.write(x, "1".repeat(89) + "0");
        return x;
    }

    private static void firstOfSeveralRefusals() {
        DOC.term(2, "Refusals, of several the first as told by each call");
        SignBook x = fullOfAll();
        DOC.refused(x, "letter(): OUTSIDE, FULL", () -> x.letter(127), SignBook.OUTSIDE);
        DOC.refused(x, "letter(): FULL", () -> x.letter(1), SignBook.FULL);
        DOC.refused(x, "about(): UNKNOWN, OUTSIDE", () -> x.about(3, 6), SignBook.UNKNOWN);
        DOC.refused(x, "member(): UNKNOWN, OUTSIDE", () -> x.member(1, 3, 6), SignBook.UNKNOWN);
        DOC.refused(x, "as(): UNKNOWN, OUTSIDE", () -> x.as(0, 1, 5), SignBook.UNKNOWN);
        DOC.refused(x, "change(): UNKNOWN, OUTSIDE", () -> x.change(0, 1, 5), SignBook.UNKNOWN);
        DOC.refused(x, "type(): UNKNOWN, FULL", () -> x.type(8), SignBook.UNKNOWN);
        DOC.refused(x, "type(): FULL", () -> x.type(7), SignBook.FULL);
        DOC.refused(x, "read(): UNKNOWN, STATE, FULL", () -> x.read(0, 1, 8), SignBook.UNKNOWN);
        DOC.refused(x, "read(): STATE, FULL", () -> x.read(0, 1, 7), SignBook.STATE);
        DOC.refused(x, "read(): FULL", () -> x.read(0, 2, 7), SignBook.FULL);
        DOC.refused(x, "stores(): UNKNOWN, FULL", () -> x.stores(7, 0, 1), SignBook.UNKNOWN);
        DOC.refused(x, "stores(): FULL", () -> x.stores(2, 0, 1), SignBook.FULL);
        DOC.refused(x, "hide(): UNKNOWN, OUTSIDE, STATE", () -> x.hide(0, 0, 0, 2), SignBook.UNKNOWN);
        DOC.refused(x, "hide(): OUTSIDE, STATE", () -> x.hide(1, 0, 0, 0), SignBook.OUTSIDE);
        DOC.refused(x, "hide(): STATE", () -> x.hide(1, 0, 1, 0), SignBook.STATE);
        DOC.refused(x, "see(): UNKNOWN, OUTSIDE, FULL", () -> x.see(0, 1, 3, true), SignBook.UNKNOWN);
        DOC.refused(x, "see(): OUTSIDE, FULL", () -> x.see(0, 0, 3, true), SignBook.OUTSIDE);
        DOC.refused(x, "see(): FULL", () -> x.see(0, 0, 2, true), SignBook.FULL);
        SignBook none = new SignBook();
        Checks.write(none, "0".repeat(16));
        DOC.refused(none, "type(): UNKNOWN, STATE", () -> none.type(-1), SignBook.UNKNOWN);
        DOC.refused(none, "type(): STATE, FULL", () -> none.type(0), SignBook.STATE);
        DOC.refused(none, "drawn(): OUTSIDE, STATE", () -> none.drawn(0, 0, 0), SignBook.OUTSIDE);
        DOC.refused(none, "drawn(): STATE", () -> none.drawn(1, 0, 0), SignBook.STATE);
    }

    /** Nor is the image another one, which digest() does not tell. */
    private static void refusalsChangeNothing() {
        DOC.term(22, "they change nothing");
        SignBook x = fullOfAll();
        long before = x.digest();
        int[] wrong = {Integer.MIN_VALUE, -1, 8, 127, Integer.MAX_VALUE};
        for (int number : wrong) {
            x.letter(number);
            x.letter('z');
            x.book();
            x.about(number, number);
            x.member(number, number, number);
            x.as(number, number, number);
            x.change(number, number, number);
            x.change(1, 0, number);
            x.type(number);
            x.type(0);
            x.read(number, number, number);
            x.read(0, 2, 0);
            x.read(0, 1, 1);
            x.lift(number, number);
            x.lift(1, number);
            x.sign(number, number);
            x.suits(number, number);
            x.stores(2, 0, 1);
            x.hide(1, 0, 1, 0);
            x.see(1, 0, 1, false);
            x.drawn(number, number, number);
            x.count(number);
            DOC.due("the digest behind refusals by " + number, x.digest(), before);
        }
        DOC.due("restore()", x.restore(), 3);
        DOC.due("the digest behind restore()", x.digest(), before);
    }
}
