/** The sentences of "What it is" and of part 1 of the terms, at their edges: books, kinds, ways, rounds. */
public final class BookTermsTest {
    private static final Sentences DOC = Sentences.ofTerms(1);
    private static final int MOST_CALLS = 512;

    public static void main(String[] args) {
        digits();
        semicolon();
        asManyBodies();
        upToThreeMembers();
        manyCalls();
        laterCalls();
        typeOfMember();
        whatIsAbove();
        atFirst();
        kinds();
        allAreMembers();
        finalIsField();
        wayBits();
        waysOfKinds();
        aboveGoesWith();
        theParameterItself();
        throughClasses();
        theLeast();
        rounds();
        DOC.end();
    }

    private static void book(String text, int want) {
        SignBook x = new SignBook();
        Checks.write(x, text);
        DOC.due("book() of " + text, x.book(), want);
    }

    private static void none(String... texts) {
        for (String text : texts) {
            book(text, SignBook.STATE);
        }
    }

    private static void digits() {
        DOC.term(5, "A BOOK is a text: one to four digits (0 to 2)");
        none(";", ";-", "00000;-,-,-,-,-", "3;-", "003;-,-,-", "/;-", "x;-");
        for (String counts : new String[] {"0", "12", "021", "2102"}) {
            SignBook x = Checks.bookOf(counts + ";-" + ",-".repeat(counts.length() - 1));
            DOC.due("classes of " + counts, x.count(0), counts.length());
            for (int number = 0; number < counts.length(); number++) {
                DOC.due("about(" + number + ", 0) of " + counts, x.about(number, 0), counts.charAt(number) - '0');
            }
        }
    }

    private static void semicolon() {
        DOC.term(5, "\";\"");
        none("0-", "0:-", "0,-", "0;;-", "0 ;-", "0;");
        book("0;-", 1);
    }

    private static void asManyBodies() {
        DOC.term(5, "as many BODIES as CLASSES");
        none("00;-", "00;-,", "00;-,-,", "00;-,-,-", "00;--", "00;-;-", "0;", "0;r0", "0;<", "00;-,=0", "0000;-,-,-");
        book("00;-,-", 2);
        book("00;-,<0", 2);
        book("0000;-,<0r0,<1,-a0", 4);
    }

    private static void upToThreeMembers() {
        DOC.term(5, "as many BODIES as CLASSES");
        String members = "";
        for (int many = 0; many <= 3; many++) {
            SignBook x = Checks.bookOf("00;-" + members + ",<0" + members);
            DOC.due(many + " members", x.about(0, 2), many);
            DOC.due(many + " members behind what is above", x.about(1, 2), many);
            for (int member = 0; member < many; member++) {
                DOC.due("member " + member, x.member(1, member, 0), member);
            }
            DOC.due("member " + many, x.member(1, many, 0), SignBook.UNKNOWN);
            members += "raf".substring(many % 3, many % 3 + 1) + "0";
        }
        none("0;-" + members, "00;-,<0" + members, "0;-r", "0;-0", "0;-z0", "0;-R0", "0;-rr0");
    }

    private static void manyCalls() {
        DOC.term(24, "An object is used for at most 512 calls");
        SignBook x = Checks.bookOf("01;-,-rx");
        int calls = "01;-,-rx".length() + 2;
        for (; calls < MOST_CALLS - 1; calls++) {
            DOC.due("call " + calls, x.change(1, 0, calls % 5), calls == 10 ? 0 : (calls - 1) % 5);
        }
        SignBook fresh = Checks.bookOf("01;-,-rx");
        fresh.change(1, 0, (calls - 1) % 5);
        DOC.due("call 512", x.digest(), fresh.digest());
    }

    /** What they answer is free, but none of them may throw. */
    private static void laterCalls() {
        DOC.term(24, "what later calls answer is free");
        SignBook x = Checks.bookOf("01;-,<0rx");
        for (int call = 0; call < 4 * MOST_CALLS; call++) {
            x.letter(48 + call % 2);
            x.type(call % 9);
            x.see(1, 0, call % 3, true);
            x.hide(1, 0, 1, 0);
            x.image();
            x.restore();
            x.digest();
        }
        DOC.due("it goes on", x.count(0), 2);
    }

    private static void typeOfMember() {
        DOC.term(5, "A TYPE is \"x\", the first PARAMETER");
        none("0;-rx", "0;-ry", "1;-ry", "1;-r0", "2;-r0x", "1;-r0xx", "0;-r1", "0;-r00", "2;-rz", "2;-r3", "02;-rx,-");
        book("1;-rx", 1);
        book("2;-rxry", 1);
        SignBook x = Checks.bookOf("0122;-r0,-r1x,-r2x2yx,-ryr33xyy");
        int[] signs = {1, 2, 5, 1};
        for (int number = 0; number < 4; number++) {
            DOC.due("signs of the first type of class " + number, x.member(number, 0, 3), signs[number]);
        }
        DOC.due("signs of a class in a class", x.member(3, 1, 3), 5);
        // Of the class whose body it is: x of class 1 is not that of class 0.
        SignBook own = Checks.bookOf("11;-rx,-ax");
        DOC.due("x of class 0", own.about(0, 3), 1);
        DOC.due("x of class 1", own.about(1, 3), 2);
    }

    private static void whatIsAbove() {
        DOC.term(6, "What is ABOVE a CLASS is the digit of a lesser CLASS");
        none("0;<0", "00;<1,-", "00;-,<1", "000;-,<2,-", "00;-,<x", "00;-,<", "11;-,<0", "11;-,<0y", "11;-,<00x", "12;-,<01xy",
            "21;-,<0x", "21;-,<0xxx", "01;-,<0x", "10;-,<0x", "0121;-,-,-,<210x");
        SignBook x = Checks.bookOf("2220;-,<0xy,<1y3,<033");
        int[] above = {SignBook.NONE, 0, 1, 0};
        for (int number = 0; number < 4; number++) {
            DOC.due("above " + number, x.about(number, 1), above[number]);
        }
        book("12;-,<0y", 2);
        book("100;-,<02,-", 3);
        book("10;-,<01", 2);
    }

    private static void atFirst() {
        DOC.term(6, "At first there is none");
        SignBook x = new SignBook();
        DOC.refused(x, "about(0, 0)", () -> x.about(0, 0), SignBook.UNKNOWN);
        DOC.due("count(0)", x.count(0), 0);
    }

    private static void kinds() {
        DOC.term(7, "KINDS are told by the letter");
        String letters = "rafhv";
        for (int kind = 0; kind <= 4; kind++) {
            DOC.due("the kind of " + letters.charAt(kind), Checks.bookOf("0;-" + letters.charAt(kind) + "0").member(0, 0, 0), kind);
        }
        for (int code = 1; code <= 126; code++) {
            if (letters.indexOf(code) < 0) {
                none("0;-" + (char) code + "0");
            }
        }
    }

    private static void allAreMembers() {
        DOC.term(8, "All are MEMBERS");
        SignBook x = Checks.bookOf("00;-r0a0f0,-h0v0");
        for (int at = 0; at < 5; at++) {
            DOC.due("as(.., 0) of kind " + at, x.as(at / 3, at % 3, 0), at % 3);
        }
    }

    private static void finalIsField() {
        DOC.term(8, "a FINAL one is a FIELD, too");
        SignBook x = Checks.bookOf("0;-f0v0");
        DOC.due("a final one as a field", x.as(0, 1, 2), 1);
        DOC.due("a final one as it is", x.as(0, 1, 4), 1);
        DOC.due("a field as a final one", x.as(0, 0, 4), SignBook.NONE);
        x.see(0, 0, 2, true);
        DOC.due("what can be a field", x.member(0, 0, 4), 4 + 16);
    }

    private static void way(String text, int number, int parameter, int want) {
        DOC.due("way of " + number + ", " + parameter + " in " + text, Checks.bookOf(text).about(number, 3 + parameter), want);
    }

    private static void wayBits() {
        DOC.term(6, "WAYS are two bits: 1 WITH, 2 AGAINST");
        way("1;-rx", 0, 0, 1);
        way("1;-ax", 0, 0, 2);
        way("1;-rxax", 0, 0, 3);
        way("1;-", 0, 0, 0);
    }

    private static void waysOfKinds() {
        DOC.term(6, "A plain MEMBER goes WITH");
        way("1;-rx", 0, 0, 1);
        way("1;-ax", 0, 0, 2);
        way("1;-fx", 0, 0, 3);
        way("1;-hx", 0, 0, 0);
        way("1;-vx", 0, 0, 1);
    }

    private static void aboveGoesWith() {
        DOC.term(6, "what is ABOVE a CLASS WITH");
        for (int kind = 0; kind < 4; kind++) {
            String text = "11;-" + "hraf".charAt(kind) + "x,<0x";
            way(text, 1, 0, kind);
        }
        way("22;-rxay,<0yx", 1, 0, 2);
        way("22;-rxay,<0yx", 1, 1, 1);
        way("12;-fx,<0y", 1, 0, 0);
        way("20;-rxay,<011", 0, 0, 1);
    }

    private static void theParameterItself() {
        DOC.term(7, "A PARAMETER has a WAY in a TYPE that goes some WAY");
        SignBook x = Checks.bookOf("2;-rxayfx");
        int[][] want = {{1, 0}, {0, 2}, {3, 0}};
        for (int member = 0; member < 3; member++) {
            DOC.due("x in member " + member, x.member(0, member, 1), want[member][0]);
            DOC.due("y in member " + member, x.member(0, member, 2), want[member][1]);
        }
    }

    /** The ways of the parameter of class 1, by the kind of the member and by the way of that of class 0. */
    private static void throughClasses() {
        DOC.term(7, "if it is a CLASS, all WAYS it has in its ARGUMENTS");
        int[][] want = {{0, 0, 0, 0}, {0, 1, 2, 3}, {0, 2, 1, 3}, {0, 3, 3, 3}};
        for (int inner = 0; inner < 4; inner++) {
            for (int outer = 0; outer < 4; outer++) {
                String text = "11;-" + "hraf".charAt(outer) + "x,-" + "hraf".charAt(inner) + "0x";
                DOC.due("x in member 0 of class 1 of " + text, Checks.bookOf(text).member(1, 0, 1), want[inner][outer]);
                way(text, 1, 0, want[inner][outer]);
            }
        }
        way("12;-ax,-r00xr000y", 1, 0, 1);
        way("12;-ax,-r00xr000y", 1, 1, 2);
        way("22;-rxay,-r0xx", 1, 0, 3);
        way("22;-rxay,-r00yx0yx", 1, 0, 3);
        way("02;-,-r1x1yx", 1, 1, 0);
    }

    private static void theLeast() {
        DOC.term(6, "The WAYS of PARAMETERS of all CLASSES are the least");
        way("1;-f0x", 0, 0, 0);
        way("11;-r1xa1x,-f0x", 0, 0, 0);
        way("11;-f1x,<0x", 1, 0, 0);
        way("1;-axa0x", 0, 0, 3);
        way("1111;-r1x,-r2x,-r3x,-rxa0x", 0, 0, 3);
        way("1111;-r1x,-r2x,-r3x,-rx", 0, 0, 1);
        way("2;-rxa0yx", 0, 1, 2);
    }

    private static void rounds() {
        DOC.term(13, "ROUNDS: from none for all");
        String[] texts = {"2;-", "1;-f0x", "1;-fx", "11;-rx,-r0x", "11;-r1x,-rx", "1111;-rx,<0x,<1x,<2x", "1111;-r1x,-r2x,-r3x,-rx",
            "1;-axa0x", "0222;-,-r10xr2y0,-r20xr3y0,-r30xrya1y0"};
        int[] want = {0, 0, 1, 2, 2, 4, 4, 2, 12};
        for (int at = 0; at < texts.length; at++) {
            DOC.due("rounds() of " + texts[at], Checks.bookOf(texts[at]).rounds(), want[at]);
        }
    }
}
