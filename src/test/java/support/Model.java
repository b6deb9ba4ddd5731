import java.util.ArrayList;
import java.util.Arrays;
import java.util.List;

/**
 * The document once more, written as it is told and in another way than the program: types are
 * trees, a page is read by descent, ways are told bit by bit, what is above is put in as a copy.
 */
final class Model {
    static final int NONE = -1, UNKNOWN = -101, OUTSIDE = -102, STATE = -103, FULL = -104;
    private static final String KINDS = "rafhv";

    record Tree(char head, List<Tree> arguments) {
        int signs() {
            return 1 + arguments.stream().mapToInt(Tree::signs).sum();
        }

        String text() {
            StringBuilder text = new StringBuilder().append(head);
            arguments.forEach(argument -> text.append(argument.text()));
            return text.toString();
        }

        int number() {
            return head - '0';
        }
    }

    record Body(Tree above, List<Tree> types, StringBuilder kinds) { }

    record Seen(int number, int member, int what, boolean could) { }

    private static final class Wrong extends RuntimeException {
        private static final long serialVersionUID = 1;
        final int answer;

        Wrong(int answer) {
            super(null, null, false, false);
            this.answer = answer;
        }
    }

    private String page = "";
    private String parameters = "";
    private List<Body> bodies = new ArrayList<>();
    private Tree[] slots = new Tree[8];
    private List<Seen> seen = new ArrayList<>();
    private List<String> keptKinds = null;
    private Tree[] keptSlots;
    private List<Seen> keptSeen;
    private int books = 0;
    private int hides = 0;
    private long seed;

    private static void unless(boolean good, int answer) {
        if (!good) {
            throw new Wrong(answer);
        }
    }

    private static boolean within(int value, int least, int most) {
        return least <= value && value <= most;
    }

    long call(String name, int[] with) {
        try {
            return answer(name, with);
        } catch (Wrong wrong) {
            return wrong.answer;
        }
    }

    private long answer(String name, int[] w) {
        switch (name) {
            case "letter": return letter(w[0]);
            case "blank": { int had = page.length(); page = ""; return had; }
            case "fault": return new Descent(page).fault();
            case "book": return book();
            case "about": return about(w[0], w[1]);
            case "member": return member(w[0], w[1], w[2]);
            case "as": return as(w[0], w[1], w[2]);
            case "change": return change(w[0], w[1], w[2]);
            case "type": return type(w[0]);
            case "read": return read(w[0], w[1], w[2]);
            case "lift": return lift(w[0], w[1]);
            case "rounds": unless(!bodies.isEmpty(), STATE); return roundsOf(kindsNow());
            case "sign": return sign(w[0], w[1]);
            case "suits": return fits(slot(w[0]), slot(w[1]), waysNow()) ? 1 : 0;
            case "stores": return stores(w[0], w[1], w[2]);
            case "hide": return hide(w[0], w[1], w[2], w[3]);
            case "see": return see(w[0], w[1], w[2], w[3] != 0);
            case "forget": { int had = seen.size(); seen.clear(); return had; }
            case "drawn": return drawn(w[0], w[1], w[2]);
            case "image": return image();
            case "restore": return restore();
            case "count": return count(w[0]);
            case "digest": return digest();
            default: throw new IllegalArgumentException(name);
        }
    }

    private int letter(int code) {
        unless(within(code, 1, 126), OUTSIDE);
        unless(page.length() < 90, FULL);
        page += (char) code;
        return page.length();
    }

    /** Reads a page by descent; stops at the first letter that cannot stand there, or at its end. */
    private static final class Descent {
        final String text;
        int at = 0;
        String counts = "";
        final List<Body> found = new ArrayList<>();
        boolean whole = false;

        private static final class Stop extends RuntimeException {
            private static final long serialVersionUID = 1;

            Stop() {
                super(null, null, false, false);
            }
        }

        Descent(String text) {
            this.text = text;
            try {
                readBook();
                whole = at == text.length();
            } catch (Stop stop) {
                whole = false;
            }
        }

        int fault() {
            return at;
        }

        private char next(String allowed) {
            if (at == text.length() || allowed.indexOf(text.charAt(at)) < 0) {
                throw new Stop();
            }
            return text.charAt(at++);
        }

        private boolean peek(String allowed) {
            return at < text.length() && allowed.indexOf(text.charAt(at)) >= 0;
        }

        private void readBook() {
            counts += next("012");
            while (counts.length() < 4 && peek("012")) {
                counts += next("012");
            }
            next(";");
            for (int number = 0; number < counts.length(); number++) {
                if (number > 0) {
                    next(",");
                }
                readBody(number);
            }
        }

        private void readBody(int number) {
            String own = "xy".substring(0, counts.charAt(number) - '0');
            Tree above = null;
            if (next("-<") == '<') {
                String lesser = "0123".substring(0, number);
                char head = next(lesser);
                List<Tree> arguments = new ArrayList<>();
                for (int many = counts.charAt(head - '0') - '0'; many > 0; many--) {
                    arguments.add(new Tree(next(own + classes(true)), List.of()));
                }
                above = new Tree(head, arguments);
            }
            Body body = new Body(above, new ArrayList<>(), new StringBuilder());
            while (body.types.size() < 3 && peek(KINDS)) {
                body.kinds.append(next(KINDS));
                body.types.add(readType(own));
            }
            found.add(body);
        }

        private Tree readType(String own) {
            char head = next(own + classes(false));
            List<Tree> arguments = new ArrayList<>();
            if (Character.isDigit(head)) {
                for (int many = counts.charAt(head - '0') - '0'; many > 0; many--) {
                    arguments.add(readType(own));
                }
            }
            return new Tree(head, arguments);
        }

        private String classes(boolean plainOnly) {
            String all = "";
            for (int number = 0; number < counts.length(); number++) {
                if (!plainOnly || counts.charAt(number) == '0') {
                    all += number;
                }
            }
            return all;
        }
    }

    private int book() {
        Descent descent = new Descent(page);
        unless(descent.whole, STATE);
        parameters = descent.counts;
        bodies = descent.found;
        slots = new Tree[8];
        seen = new ArrayList<>();
        keptKinds = null;
        books++;
        page = "";
        return bodies.size();
    }

    private int has(int number) {
        return parameters.charAt(number) - '0';
    }

    private Body body(int number) {
        unless(within(number, 0, bodies.size() - 1), UNKNOWN);
        return bodies.get(number);
    }

    private Body bodyWith(int number, int member) {
        Body body = body(number);
        unless(within(member, 0, body.types.size() - 1), UNKNOWN);
        return body;
    }

    private Tree slot(int slot) {
        unless(within(slot, 0, 7) && slots[slot] != null, UNKNOWN);
        return slots[slot];
    }

    private int kind(int number, int member) {
        return KINDS.indexOf(bodies.get(number).kinds.charAt(member));
    }

    private static boolean goesWith(char kind) {
        return kind == 'r' || kind == 'f' || kind == 'v';
    }

    private static boolean goesAgainst(char kind) {
        return kind == 'a' || kind == 'f';
    }

    private static boolean isField(char kind) {
        return kind == 'f' || kind == 'v';
    }

    private int about(int number, int what) {
        Body body = body(number);
        unless(within(what, 0, 5), OUTSIDE);
        switch (what) {
            case 0: return has(number);
            case 1: return body.above == null ? NONE : body.above.number();
            case 2: return body.types.size();
            case 3:
            case 4: return what - 3 < has(number) ? bits(waysNow()[number][what - 3]) : NONE;
            default: return body.above == null ? 0 : 1 + about(body.above.number(), 5);
        }
    }

    private int member(int number, int member, int what) {
        Body body = bodyWith(number, member);
        unless(within(what, 0, 5), OUTSIDE);
        switch (what) {
            case 0: return kind(number, member);
            case 1:
            case 2:
                if (what > has(number)) {
                    return NONE;
                }
                boolean[][] added = new boolean[2][2];
                char kind = body.kinds.charAt(member);
                tell(body.types.get(member), goesWith(kind), goesAgainst(kind), waysNow(), added);
                return bits(added[what - 1]);
            case 3: return body.types.get(member).signs();
            case 4: {
                int sorts = 0;
                for (int sort : sorts(number, member)) {
                    sorts |= 1 << sort;
                }
                return sorts;
            }
            default: return ask(sorts(number, member));
        }
    }

    private static boolean could(int sort, int what) {
        char kind = KINDS.charAt(sort);
        return what == 0 ? goesWith(kind) : what == 1 ? goesAgainst(kind) : isField(kind);
    }

    private List<Integer> sorts(int number, int member) {
        List<Integer> sorts = new ArrayList<>(List.of(0, 1, 2, 3, 4));
        for (Seen one : seen) {
            if (one.number == number && one.member == member) {
                sorts.removeIf(sort -> could(sort, one.what) != one.could);
            }
        }
        return sorts;
    }

    private static int ask(List<Integer> sorts) {
        int best = NONE;
        long least = Long.MAX_VALUE;
        for (int what = 0; what < 3 && !sorts.isEmpty(); what++) {
            int asked = what;
            long yes = sorts.stream().filter(sort -> could(sort, asked)).count();
            long worst = Math.max(yes, sorts.size() - yes);
            if (worst < least) {
                least = worst;
                best = what;
            }
        }
        return best;
    }

    private int as(int number, int member, int kind) {
        bodyWith(number, member);
        unless(within(kind, 0, 4), OUTSIDE);
        int is = kind(number, member);
        return kind == 0 || kind == is || kind == 2 && is == 4 ? member : NONE;
    }

    private int change(int number, int member, int kind) {
        Body body = bodyWith(number, member);
        unless(within(kind, 0, 4), OUTSIDE);
        int was = kind(number, member);
        body.kinds.setCharAt(member, KINDS.charAt(kind));
        return was;
    }

    private int type(int slot) {
        unless(within(slot, 0, 7), UNKNOWN);
        unless(!bodies.isEmpty(), STATE);
        int[] at = {0};
        Tree tree = closed(page, at);
        unless(at[0] == page.length(), STATE);
        return put(tree, slot, () -> page = "");
    }

    private Tree closed(String text, int[] at) {
        unless(at[0] < text.length(), STATE);
        char head = text.charAt(at[0]++);
        unless(within(head - '0', 0, bodies.size() - 1), STATE);
        List<Tree> arguments = new ArrayList<>();
        for (int many = has(head - '0'); many > 0; many--) {
            arguments.add(closed(text, at));
        }
        return new Tree(head, arguments);
    }

    private int put(Tree tree, int slot, Runnable then) {
        unless(tree.signs() <= 15, FULL);
        slots[slot] = tree;
        then.run();
        return tree.signs();
    }

    private static Tree putIn(Tree type, List<Tree> arguments) {
        if (type.head == 'x' || type.head == 'y') {
            return arguments.get(type.head - 'x');
        }
        return new Tree(type.head, type.arguments.stream().map(one -> putIn(one, arguments)).toList());
    }

    private int read(int from, int member, int to) {
        Tree tree = slot(from);
        Body body = bodyWith(tree.number(), member);
        unless(within(to, 0, 7), UNKNOWN);
        unless(goesWith(body.kinds.charAt(member)), STATE);
        return put(putIn(body.types.get(member), tree.arguments), to, () -> { });
    }

    private int lift(int from, int to) {
        Tree tree = slot(from);
        unless(within(to, 0, 7), UNKNOWN);
        Tree above = bodies.get(tree.number()).above;
        return above == null ? NONE : put(putIn(above, tree.arguments), to, () -> { });
    }

    private int sign(int slot, int number) {
        String text = slot(slot).text();
        unless(within(number, 0, text.length() - 1), UNKNOWN);
        return text.charAt(number) - '0';
    }

    private int stores(int what, int in, int member) {
        Tree stored = slot(what);
        Tree tree = slot(in);
        Body body = bodyWith(tree.number(), member);
        if (!goesAgainst(body.kinds.charAt(member))) {
            return NONE;
        }
        Tree wanted = putIn(body.types.get(member), tree.arguments);
        unless(wanted.signs() <= 15, FULL);
        return fits(stored, wanted, waysNow()) ? 1 : 0;
    }

    private boolean fits(Tree one, Tree other, boolean[][][] ways) {
        if (one.head == other.head) {
            boolean all = true;
            for (int at = 0; at < one.arguments.size() && all; at++) {
                Tree mine = one.arguments.get(at);
                Tree its = other.arguments.get(at);
                boolean[] way = ways[one.number()][at];
                all = (!way[0] || fits(mine, its, ways)) && (!way[1] || fits(its, mine, ways));
            }
            return all;
        }
        Tree above = bodies.get(one.number()).above;
        return above != null && fits(putIn(above, one.arguments), other, ways);
    }

    private List<String> kindsNow() {
        return bodies.stream().map(body -> body.kinds.toString()).toList();
    }

    private boolean[][][] waysNow() {
        return waysOf(kindsNow());
    }

    private static int bits(boolean[] way) {
        return (way[0] ? 1 : 0) + (way[1] ? 2 : 0);
    }

    /** Adds to what is found the ways, with and against, of both parameters in a type. */
    private void tell(Tree type, boolean with, boolean against, boolean[][][] ways, boolean[][] found) {
        if (!with && !against) {
            return;
        }
        if (type.head == 'x' || type.head == 'y') {
            found[type.head - 'x'][0] |= with;
            found[type.head - 'x'][1] |= against;
            return;
        }
        for (int at = 0; at < type.arguments.size(); at++) {
            boolean[] way = ways[type.number()][at];
            boolean sameWay = way[0];
            boolean otherWay = way[1];
            tell(type.arguments.get(at), with && sameWay || against && otherWay,
                against && sameWay || with && otherWay, ways, found);
        }
    }

    private boolean[][][] nextRound(List<String> kinds, boolean[][][] ahead) {
        boolean[][][] found = new boolean[bodies.size()][2][2];
        for (int number = 0; number < bodies.size(); number++) {
            Body body = bodies.get(number);
            if (body.above != null) {
                tell(body.above, true, false, ahead, found[number]);
            }
            for (int member = 0; member < body.types.size(); member++) {
                char kind = kinds.get(number).charAt(member);
                tell(body.types.get(member), goesWith(kind), goesAgainst(kind), ahead, found[number]);
            }
        }
        return found;
    }

    private boolean[][][] waysOf(List<String> kinds) {
        boolean[][][] ways = new boolean[bodies.size()][2][2];
        while (true) {
            boolean[][][] next = nextRound(kinds, ways);
            if (Arrays.deepEquals(next, ways)) {
                return ways;
            }
            ways = next;
        }
    }

    private int roundsOf(List<String> kinds) {
        boolean[][][] ways = new boolean[bodies.size()][2][2];
        for (int rounds = 0; ; rounds++) {
            boolean[][][] next = nextRound(kinds, ways);
            if (Arrays.deepEquals(next, ways)) {
                return rounds;
            }
            ways = next;
        }
    }

    private int hide(int number, int parameter, int way, int what) {
        body(number);
        unless(within(parameter, 0, has(number) - 1), UNKNOWN);
        unless(within(way, 1, 2) && within(what, 0, 1), OUTSIDE);
        unless(hides < 12, STATE);
        hides++;
        for (int many = 0; many <= 3; many++) {
            for (int hidden = 0; hidden < 4096; hidden++) {
                if (Integer.bitCount(hidden) == many && leavesWithout(hidden, number, parameter, way)) {
                    return what == 0 ? many : hidden;
                }
            }
        }
        return NONE;
    }

    private boolean leavesWithout(int hidden, int number, int parameter, int way) {
        List<String> kinds = new ArrayList<>(kindsNow());
        for (int bit = 0; bit < 12; bit++) {
            if ((hidden >> bit & 1) != 0) {
                int of = bit / 3;
                int member = bit % 3;
                if (of >= kinds.size() || member >= kinds.get(of).length()
                    || kinds.get(of).charAt(member) == 'h') {
                    return false;
                }
                StringBuilder changed = new StringBuilder(kinds.get(of));
                changed.setCharAt(member, 'h');
                kinds.set(of, changed.toString());
            }
        }
        return !waysOf(kinds)[number][parameter][way - 1];
    }

    private int see(int number, int member, int what, boolean could) {
        bodyWith(number, member);
        unless(within(what, 0, 2), OUTSIDE);
        unless(seen.size() < 6, FULL);
        seen.add(new Seen(number, member, what, could));
        return seen.size();
    }

    private int draw(int howMany) {
        seed = (1103515245L * seed + 12345L) & 0x7fffffffL;
        return (int) ((seed >> 16) % howMany);
    }

    private Tree drawTree(int depth) {
        if (depth == 2) {
            String plain = "";
            for (int number = 0; number < bodies.size(); number++) {
                plain += has(number) == 0 ? "" + number : "";
            }
            return new Tree(plain.charAt(draw(plain.length())), List.of());
        }
        int number = draw(bodies.size());
        List<Tree> arguments = new ArrayList<>();
        for (int many = has(number); many > 0; many--) {
            arguments.add(drawTree(depth + 1));
        }
        return new Tree((char) ('0' + number), arguments);
    }

    private int drawn(int times, int first, int what) {
        unless(within(times, 1, 60) && first >= 0 && within(what, 0, 2), OUTSIDE);
        unless(parameters.indexOf('0') >= 0, STATE);
        int often = 0;
        int signs = 0;
        seed = first;
        boolean[][][] ways = waysNow();
        for (int time = 0; time < times; time++) {
            Tree one = drawTree(0);
            Tree other = drawTree(0);
            often += fits(one, other, ways) ? 1 : 0;
            signs += one.signs() + other.signs();
        }
        return what == 0 ? often : what == 1 ? signs : (int) seed;
    }

    private int filled() {
        return (int) Arrays.stream(slots).filter(slot -> slot != null).count();
    }

    private int image() {
        unless(!bodies.isEmpty(), STATE);
        keptKinds = kindsNow();
        keptSlots = slots.clone();
        keptSeen = new ArrayList<>(seen);
        return filled();
    }

    private int restore() {
        unless(keptKinds != null, STATE);
        for (int number = 0; number < bodies.size(); number++) {
            bodies.get(number).kinds.setLength(0);
            bodies.get(number).kinds.append(keptKinds.get(number));
        }
        slots = keptSlots.clone();
        seen = new ArrayList<>(keptSeen);
        return filled();
    }

    private int parametersThatGo(int way) {
        int many = 0;
        boolean[][][] ways = waysNow();
        for (int number = 0; number < bodies.size(); number++) {
            for (int parameter = 0; parameter < has(number); parameter++) {
                many += bits(ways[number][parameter]) == way ? 1 : 0;
            }
        }
        return many;
    }

    private int count(int what) {
        unless(within(what, 0, 10), OUTSIDE);
        switch (what) {
            case 0: return bodies.size();
            case 1: return parameters.chars().map(digit -> digit - '0').sum();
            case 2: return bodies.stream().mapToInt(body -> body.types.size()).sum();
            case 3: return parametersThatGo(0);
            case 4: return parametersThatGo(3);
            case 5: return filled();
            case 6: return Arrays.stream(slots).mapToInt(slot -> slot == null ? 0 : slot.signs()).sum();
            case 7: return seen.size();
            case 8: return page.length();
            case 9: return books;
            default: return hides;
        }
    }

    private long digest() {
        List<Integer> told = new ArrayList<>();
        for (int number = 0; number < bodies.size(); number++) {
            for (int what = 0; what <= 5; what++) {
                told.add(about(number, what));
            }
            for (int member = 0; member < bodies.get(number).types.size(); member++) {
                for (int what = 0; what <= 5; what++) {
                    told.add(member(number, member, what));
                }
            }
        }
        for (Tree slot : slots) {
            told.add(slot == null ? 0 : slot.signs());
            if (slot != null) {
                slot.text().chars().forEach(sign -> told.add(sign - '0'));
            }
        }
        if (slots[0] != null && slots[1] != null) {
            told.add(fits(slots[0], slots[1], waysNow()) ? 1 : 0);
        }
        if (!bodies.isEmpty()) {
            told.add(roundsOf(kindsNow()));
        }
        page.chars().forEach(told::add);
        for (int what = 0; what <= 10; what++) {
            told.add(count(what));
        }
        long h = 1381;
        for (int number : told) {
            h = 31 * h + number;
        }
        return h;
    }
}
