import java.util.Arrays;
import java.util.Random;

/** Many runs of calls, drawn by fixed seeds, on the program and on the model side by side. */
public final class ModelTest {
    private static final int RUNS = 4000;
    private static final int CALLS = 512;
    private static final int[] WILD = {Integer.MIN_VALUE, Integer.MAX_VALUE, -1, -2, 3, 4, 5, 7, 8, 12, 15, 100};
    private static final String[] QUIET = {
        "about", "member", "as", "change", "change", "read", "read", "lift", "lift", "rounds", "sign", "suits",
        "suits", "stores", "stores", "hide", "see", "see", "forget", "drawn", "image", "restore", "count",
        "digest", "letter", "blank", "fault", "book", "type", "TYPE", "TYPE", "TYPE", "TYPE", "BOOK", "PAGE"};

    private final Checks checks = new Checks();
    private final Random random;
    private SignBook program;
    private Model model;
    private String counts = "";
    private int calls = 0;
    private final StringBuilder told = new StringBuilder();

    private ModelTest(long seed) {
        random = new Random(seed);
    }

    public static void main(String[] args) {
        long answers = 0;
        for (int run = 0; run < RUNS; run++) {
            ModelTest test = new ModelTest(run);
            test.go(run % 10 == 0);
            answers += test.calls;
        }
        System.out.println(answers + " answers like those of the model");
    }

    private void go(boolean startsWithoutBook) {
        program = new SignBook();
        model = new Model();
        if (!startsWithoutBook) {
            writeBook();
        }
        while (calls < CALLS - 100) {
            String name = QUIET[random.nextInt(QUIET.length)];
            switch (name) {
                case "TYPE": writeType(); break;
                case "BOOK": if (random.nextInt(8) == 0) { writeBook(); } break;
                case "PAGE": writeSpoiltPage(); break;
                case "book": if (random.nextInt(4) == 0) { ask("book"); } break;
                default: ask(name, argumentsOf(name)); break;
            }
        }
        ask("digest");
    }

    private int[] argumentsOf(String name) {
        boolean wild = random.nextInt(12) == 0;
        int number = random.nextInt(Math.max(1, counts.length()));
        int member = random.nextInt(3);
        int slot = random.nextInt(3);
        int other = random.nextInt(3);
        int[] usual;
        switch (name) {
            case "letter": usual = new int[] {random.nextInt(126) + 1}; break;
            case "about": usual = new int[] {number, random.nextInt(6)}; break;
            case "member": usual = new int[] {number, member, random.nextInt(6)}; break;
            case "as":
            case "change": usual = new int[] {number, member, random.nextInt(5)}; break;
            case "type": usual = new int[] {random.nextInt(8)}; break;
            case "read": usual = new int[] {slot, member, random.nextInt(4)}; break;
            case "lift": usual = new int[] {slot, random.nextInt(4)}; break;
            case "sign": usual = new int[] {slot, random.nextInt(5)}; break;
            case "suits": usual = new int[] {slot, other}; break;
            case "stores": usual = new int[] {slot, other, member}; break;
            case "hide": usual = new int[] {number, random.nextInt(2), 1 + random.nextInt(2), random.nextInt(2)}; break;
            case "see": usual = new int[] {number, member, random.nextInt(3), random.nextInt(2)}; break;
            case "drawn": usual = new int[] {1 + random.nextInt(60), random.nextInt() & 0x7fffffff, random.nextInt(3)}; break;
            case "count": usual = new int[] {random.nextInt(11)}; break;
            default: usual = new int[0]; break;
        }
        for (int at = 0; wild && at < usual.length; at++) {
            if (random.nextInt(2) == 0) {
                usual[at] = WILD[random.nextInt(WILD.length)];
            }
        }
        return usual;
    }

    private void ask(String name, int... with) {
        calls++;
        String call = name + Arrays.toString(with);
        long want = model.call(name, with);
        long got = onProgram(name, with);
        told.append(call).append(" = ").append(want).append('\n');
        if (got != want) {
            System.out.println(told);
            checks.due(call, got, want);
            checks.end();
        }
    }

    private long onProgram(String name, int[] w) {
        switch (name) {
            case "letter": return program.letter(w[0]);
            case "blank": return program.blank();
            case "fault": return program.fault();
            case "book": return program.book();
            case "about": return program.about(w[0], w[1]);
            case "member": return program.member(w[0], w[1], w[2]);
            case "as": return program.as(w[0], w[1], w[2]);
            case "change": return program.change(w[0], w[1], w[2]);
            case "type": return program.type(w[0]);
            case "read": return program.read(w[0], w[1], w[2]);
            case "lift": return program.lift(w[0], w[1]);
            case "rounds": return program.rounds();
            case "sign": return program.sign(w[0], w[1]);
            case "suits": return program.suits(w[0], w[1]);
            case "stores": return program.stores(w[0], w[1], w[2]);
            case "hide": return program.hide(w[0], w[1], w[2], w[3]);
            case "see": return program.see(w[0], w[1], w[2], w[3] != 0);
            case "forget": return program.forget();
            case "drawn": return program.drawn(w[0], w[1], w[2]);
            case "image": return program.image();
            case "restore": return program.restore();
            case "count": return program.count(w[0]);
            case "digest": return program.digest();
            default: throw new IllegalArgumentException(name);
        }
    }

    private void writePage(String text) {
        ask("blank");
        for (int at = 0; at < text.length(); at++) {
            ask("letter", text.charAt(at));
        }
    }

    private void writeBook() {
        String text = bookText();
        writePage(text);
        ask("fault");
        ask("book");
        if (text.length() <= 90) {
            counts = text.substring(0, text.indexOf(';'));
        }
        ask("digest");
    }

    private void writeType() {
        if (counts.indexOf('0') < 0) {
            return;
        }
        writePage(typeText("", 1 + random.nextInt(random.nextInt(8) == 0 ? 12 : 4)));
        ask("type", random.nextInt(4));
    }

    private void writeSpoiltPage() {
        if (random.nextInt(4) != 0) {
            return;
        }
        String was = counts;
        StringBuilder text = new StringBuilder(bookText());
        counts = was;
        String letters = "012345;,-<xyrafhvz";
        for (int times = random.nextInt(3); times >= 0; times--) {
            int at = random.nextInt(text.length());
            if (random.nextInt(3) == 0) {
                text.setLength(at + 1);
            } else {
                text.setCharAt(at, letters.charAt(random.nextInt(letters.length())));
            }
        }
        writePage(text.toString());
        ask("fault");
        if (random.nextInt(3) == 0 && model.call("fault", new int[0]) < model.call("count", new int[] {8})) {
            ask("book");
        }
    }

    private String bookText() {
        String was = counts;
        counts = "";
        for (int many = 1 + random.nextInt(4) | random.nextInt(3); many > 0 && counts.length() < 4; many--) {
            counts += "0011122".charAt(random.nextInt(7));
        }
        StringBuilder text = new StringBuilder(counts).append(';');
        for (int number = 0; number < counts.length(); number++) {
            text.append(number > 0 ? "," : "").append(bodyText(number));
        }
        counts = was;
        return text.toString();
    }

    private String bodyText(int number) {
        String own = "xy".substring(0, counts.charAt(number) - '0');
        StringBuilder text = new StringBuilder();
        if (number > 0 && random.nextInt(2) == 0) {
            int above = random.nextInt(number);
            text.append('<').append(above);
            for (int many = counts.charAt(above) - '0'; many > 0; many--) {
                text.append(leaf(own));
            }
        } else {
            text.append('-');
        }
        for (int many = random.nextInt(4); many > 0; many--) {
            text.append("rafhv".charAt(random.nextInt(5))).append(typeText(own, random.nextInt(4)));
        }
        return text.toString();
    }

    private String leaf(String own) {
        String leaves = own + own;
        for (int number = 0; number < counts.length(); number++) {
            leaves += counts.charAt(number) == '0' ? "" + number : "";
        }
        return "" + leaves.charAt(random.nextInt(leaves.length()));
    }

    private String typeText(String own, int depth) {
        if (depth == 0) {
            return leaf(own);
        }
        int head = random.nextInt(counts.length());
        String text = "" + head;
        for (int many = counts.charAt(head) - '0'; many > 0; many--) {
            text += typeText(own, depth - 1);
        }
        return text;
    }
}
