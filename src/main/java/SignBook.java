import java.util.Arrays;

/** A book of classes whose parameters go with their class or against it. */
public final class SignBook {
    public static final int NONE = -1, UNKNOWN = -101, OUTSIDE = -102, STATE = -103, FULL = -104;

    private static final int MOST_CLASSES = 4;
    private static final int MOST_PARAMETERS = 2;
    private static final int MOST_MEMBERS = 3;
    private static final int ALL_MEMBERS = 12;
    private static final int ALL_PARAMETERS = 8;
    private static final int SLOTS = 8;
    private static final int MOST_SIGNS = 15;
    private static final int ALL_SIGNS = 120;
    private static final int MOST_LETTERS = 90;
    private static final int LAST_CODE = 126;
    private static final int MOST_SEEN = 6;
    private static final int MOST_HIDES = 12;
    private static final int MOST_TO_HIDE = 3;
    private static final int MOST_TIMES = 60;
    private static final int LAST_ABOUT = 5;
    private static final int LAST_OF_MEMBER = 5;
    private static final int LAST_COUNT = 10;

    /** Signs below X are classes; X and Y are the parameters of the class whose body it is. */
    private static final int X = 4;
    private static final int Y = 5;

    private static final int WITH = 1;
    private static final int AGAINST = 2;
    private static final int BOTH = 3;

    private static final int PLAIN = 0;
    private static final int FIELD = 2;
    private static final int HIDDEN = 3;
    private static final int FINAL = 4;
    private static final int LAST_KIND = 4;
    private static final String KIND_LETTERS = "rafhv";
    private static final int[] KIND_WAYS = {WITH, AGAINST, BOTH, 0, WITH};

    /** For what can be seen of a member (0 to 2): the kinds that could it, as bits. */
    private static final int[] KINDS_THAT_COULD = {21, 6, 20};
    private static final int ALL_KINDS = 31;
    private static final int LAST_SEEN = 2;

    private final Page page;
    private final Book book;
    private final Book draft;
    private final Reader reader;
    private final Holding now;
    private final Holding kept;
    private final Ways ways;
    private final Ways trial;
    private final Row made;
    private final Fitting fitting;
    private final Draws draws;
    private boolean isKept;
    private int booksRead;
    private int hidesDone;

    public SignBook() {
        page = new Page();
        book = new Book();
        draft = new Book();
        reader = new Reader(draft);
        now = new Holding();
        kept = new Holding();
        ways = new Ways(book);
        trial = new Ways(book);
        made = new Row();
        fitting = new Fitting(book, ways);
        draws = new Draws(book, fitting);
        isKept = false;
        booksRead = 0;
        hidesDone = 0;
    }

    // ---- the book.

    public int letter(int code) {
        if (code < 1 || code > LAST_CODE) {
            return OUTSIDE;
        }
        return page.add(code) ? page.size : FULL;
    }

    public int blank() {
        return page.clear();
    }

    public int fault() {
        return reader.firstFault(page);
    }

    public int book() {
        if (reader.firstFault(page) < page.size || !reader.isWhole()) {
            return STATE;
        }
        book.copy(draft);
        now.begin(book.kinds);
        ways.settle(now.kinds, 0);
        isKept = false;
        booksRead++;
        page.clear();
        return book.classes;
    }

    public int about(int number, int what) {
        if (!book.hasClass(number)) {
            return UNKNOWN;
        }
        switch (what) {
            case 0: return book.parametersOf(number);
            case 1: return book.classAbove(number);
            case 2: return book.membersOf(number);
            case 3: return wayOrNone(number, 0);
            case 4: return wayOrNone(number, 1);
            case LAST_ABOUT: return book.howManyAbove(number);
            default: return OUTSIDE;
        }
    }

    public int member(int number, int member, int what) {
        if (!book.hasMember(number, member)) {
            return UNKNOWN;
        }
        int place = placeOf(number, member);
        switch (what) {
            case 0: return now.kindOf(place);
            case 1: return addedOrNone(number, place, 0);
            case 2: return addedOrNone(number, place, 1);
            case 3: return book.signsIn(place);
            case 4: return now.sortsOf(place);
            case LAST_OF_MEMBER: return bestToAsk(now.sortsOf(place));
            default: return OUTSIDE;
        }
    }

    public int as(int number, int member, int kind) {
        if (!book.hasMember(number, member)) {
            return UNKNOWN;
        }
        if (kind < 0 || kind > LAST_KIND) {
            return OUTSIDE;
        }
        return isOfKind(now.kindOf(placeOf(number, member)), kind) ? member : NONE;
    }

    // ---- what is done.

    public int change(int number, int member, int kind) {
        if (!book.hasMember(number, member)) {
            return UNKNOWN;
        }
        if (kind < 0 || kind > LAST_KIND) {
            return OUTSIDE;
        }
        int place = placeOf(number, member);
        int was = now.kindOf(place);
        now.setKind(place, kind);
        ways.settle(now.kinds, 0);
        return was;
    }

    public int type(int slot) {
        if (!isSlot(slot)) {
            return UNKNOWN;
        }
        if (!book.isClosedType(page)) {
            return STATE;
        }
        if (page.size > MOST_SIGNS) {
            return FULL;
        }
        made.size = 0;
        for (int at = 0; at < page.size; at++) {
            made.add(page.letterAt(at) - '0');
        }
        page.clear();
        return now.putIntoSlot(slot, made);
    }

    public int read(int from, int member, int to) {
        if (!isFilled(from) || !book.hasMember(now.classIn(from), member) || !isSlot(to)) {
            return UNKNOWN;
        }
        int place = placeOf(now.classIn(from), member);
        if ((kindWays(now.kindOf(place)) & WITH) == 0) {
            return STATE;
        }
        return make(place, from) ? now.putIntoSlot(to, made) : FULL;
    }

    public int lift(int from, int to) {
        if (!isFilled(from) || !isSlot(to)) {
            return UNKNOWN;
        }
        int number = now.classIn(from);
        if (book.classAbove(number) == NONE) {
            return NONE;
        }
        return make(ALL_MEMBERS + number, from) ? now.putIntoSlot(to, made) : FULL;
    }

    // ---- what would be.

    public int rounds() {
        return book.classes == 0 ? STATE : ways.rounds;
    }

    public int sign(int slot, int number) {
        if (!isFilled(slot) || number < 0 || number >= now.sizeOf(slot)) {
            return UNKNOWN;
        }
        return now.signAt(slot, number);
    }

    public int suits(int one, int other) {
        if (!isFilled(one) || !isFilled(other)) {
            return UNKNOWN;
        }
        made.takeSlot(now, one);
        fitting.layOne(made);
        made.takeSlot(now, other);
        fitting.layOther(made);
        return fitting.oneFits() ? 1 : 0;
    }

    public int stores(int what, int in, int member) {
        if (!isFilled(what) || !isFilled(in) || !book.hasMember(now.classIn(in), member)) {
            return UNKNOWN;
        }
        int place = placeOf(now.classIn(in), member);
        if ((kindWays(now.kindOf(place)) & AGAINST) == 0) {
            return NONE;
        }
        made.takeSlot(now, what);
        fitting.layOne(made);
        if (!make(place, in)) {
            return FULL;
        }
        fitting.layOther(made);
        return fitting.oneFits() ? 1 : 0;
    }

    public int hide(int number, int parameter, int way, int what) {
        if (!book.hasParameter(number, parameter)) {
            return UNKNOWN;
        }
        if (way < WITH || way > AGAINST || what < 0 || what > 1) {
            return OUTSIDE;
        }
        if (hidesDone >= MOST_HIDES) {
            return STATE;
        }
        hidesDone++;
        int hidden = fewestToHide(number, parameter, way);
        if (hidden == NONE) {
            return NONE;
        }
        return what == 0 ? Integer.bitCount(hidden) : hidden;
    }

    // ---- what is seen.

    public int see(int number, int member, int what, boolean could) {
        if (!book.hasMember(number, member)) {
            return UNKNOWN;
        }
        if (what < 0 || what > LAST_SEEN) {
            return OUTSIDE;
        }
        return now.addSeen(placeOf(number, member), what, could) ? now.seenCount : FULL;
    }

    public int forget() {
        int was = now.seenCount;
        now.seenCount = 0;
        return was;
    }

    public int drawn(int times, int seed, int what) {
        if (times < 1 || times > MOST_TIMES || seed < 0 || what < 0 || what > 2) {
            return OUTSIDE;
        }
        if (book.howManyPlain() == 0) {
            return STATE;
        }
        draws.run(times, seed);
        switch (what) {
            case 0: return draws.fitting;
            case 1: return draws.signs;
            default: return (int) draws.seed;
        }
    }

    // ---- what is told of all.

    public int image() {
        if (book.classes == 0) {
            return STATE;
        }
        kept.copy(now);
        isKept = true;
        return now.filledSlots();
    }

    public int restore() {
        if (!isKept) {
            return STATE;
        }
        now.copy(kept);
        ways.settle(now.kinds, 0);
        return now.filledSlots();
    }

    public int count(int what) {
        switch (what) {
            case 0: return book.classes;
            case 1: return book.allParameters();
            case 2: return book.allMembers();
            case 3: return ways.howManyGo(0);
            case 4: return ways.howManyGo(BOTH);
            case 5: return now.filledSlots();
            case 6: return now.allSigns();
            case 7: return now.seenCount;
            case 8: return page.size;
            case 9: return booksRead;
            case LAST_COUNT: return hidesDone;
            default: return OUTSIDE;
        }
    }

    public long digest() {
        long h = 1381;
        for (int number = 0; number < book.classes; number++) {
            h = digestOfClass(h, number);
        }
        for (int slot = 0; slot < SLOTS; slot++) {
            h = digestOfSlot(h, slot);
        }
        if (isFilled(0) && isFilled(1)) {
            h = 31 * h + suits(0, 1);
        }
        if (book.classes > 0) {
            h = 31 * h + rounds();
        }
        for (int at = 0; at < page.size; at++) {
            h = 31 * h + page.letterAt(at);
        }
        for (int what = 0; what <= LAST_COUNT; what++) {
            h = 31 * h + count(what);
        }
        return h;
    }

    // ---- helpers of the calls.

    private long digestOfClass(long before, int number) {
        long h = before;
        for (int what = 0; what <= LAST_ABOUT; what++) {
            h = 31 * h + about(number, what);
        }
        for (int member = 0; member < book.membersOf(number); member++) {
            for (int what = 0; what <= LAST_OF_MEMBER; what++) {
                h = 31 * h + member(number, member, what);
            }
        }
        return h;
    }

    private long digestOfSlot(long before, int slot) {
        long h = 31 * before + now.sizeOf(slot);
        for (int at = 0; at < now.sizeOf(slot); at++) {
            h = 31 * h + now.signAt(slot, at);
        }
        return h;
    }

    private int wayOrNone(int number, int parameter) {
        return book.hasParameter(number, parameter) ? ways.wayOf(number, parameter) : NONE;
    }

    private int addedOrNone(int number, int place, int parameter) {
        if (!book.hasParameter(number, parameter)) {
            return NONE;
        }
        int told = ways.toldBy(place, kindWays(now.kindOf(place)));
        return told >> 2 * parameter & BOTH;
    }

    private boolean isFilled(int slot) {
        return now.sizeOf(slot) > 0;
    }

    private boolean make(int place, int slot) {
        return made.takeType(book, place, now, slot);
    }

    /** The members to hide as bits, the fewest and of as many the least; NONE if three are too few. */
    private int fewestToHide(int number, int parameter, int way) {
        int useful = membersThatAdd();
        int best = NONE;
        int fewest = MOST_TO_HIDE + 1;
        for (int hidden = 0; hidden < 1 << ALL_MEMBERS; hidden++) {
            if ((hidden & ~useful) == 0 && Integer.bitCount(hidden) < fewest) {
                trial.settle(now.kinds, hidden);
                if ((trial.wayOf(number, parameter) & way) == 0) {
                    best = hidden;
                    fewest = Integer.bitCount(hidden);
                }
            }
        }
        return best;
    }

    /** A member that adds nothing now would add nothing with others hidden: the fewest never need it. */
    private int membersThatAdd() {
        int useful = 0;
        for (int place = 0; place < ALL_MEMBERS; place++) {
            if (ways.toldBy(place, kindWays(now.kindOf(place))) != 0) {
                useful |= 1 << place;
            }
        }
        return useful;
    }

    private static int placeOf(int number, int member) {
        return MOST_MEMBERS * number + member;
    }

    private static boolean isSlot(int slot) {
        return slot >= 0 && slot < SLOTS;
    }

    private static int kindWays(int kind) {
        return kind >= 0 && kind < KIND_WAYS.length ? KIND_WAYS[kind] : 0;
    }

    private static boolean isOfKind(int is, int kind) {
        return kind == is || kind == PLAIN || kind == FIELD && is == FINAL;
    }

    private static int bestToAsk(int sorts) {
        int best = NONE;
        int fewest = Integer.bitCount(sorts) + 1;
        for (int what = 0; what <= LAST_SEEN && sorts != 0; what++) {
            int could = Integer.bitCount(sorts & KINDS_THAT_COULD[what]);
            int left = Math.max(could, Integer.bitCount(sorts) - could);
            if (left < fewest) {
                best = what;
                fewest = left;
            }
        }
        return best;
    }

    /** THE PAGE. */
    private static final class Page {
        final int[] letters = new int[MOST_LETTERS];
        int size = 0;

        boolean add(int code) {
            if (size < 0 || size >= letters.length) {
                return false;
            }
            letters[size] = code;
            size++;
            return true;
        }

        int clear() {
            int was = size;
            size = 0;
            return was;
        }

        int letterAt(int at) {
            return at >= 0 && at < letters.length ? letters[at] : 0;
        }
    }

    /**
     * What a text says of its classes; one without classes stands for none. Types stand one behind
     * the other in one text: that of a member at the place of the member, what is above a class at
     * ALL_MEMBERS and its number. Rows are 0 for classes that there are not.
     */
    private static final class Book {
        final int[] kinds = new int[ALL_MEMBERS];
        final int[] parameters = new int[MOST_CLASSES];
        final int[] members = new int[MOST_CLASSES];
        final int[] text = new int[MOST_LETTERS];
        final int[] starts = new int[ALL_MEMBERS + MOST_CLASSES];
        final int[] ends = new int[ALL_MEMBERS + MOST_CLASSES];
        int size = 0;
        int classes = 0;

        void clear() {
            Arrays.fill(kinds, 0);
            Arrays.fill(parameters, 0);
            Arrays.fill(members, 0);
            Arrays.fill(text, 0);
            Arrays.fill(starts, 0);
            Arrays.fill(ends, 0);
            size = 0;
            classes = 0;
        }

        void copy(Book other) {
            System.arraycopy(other.kinds, 0, kinds, 0, ALL_MEMBERS);
            System.arraycopy(other.parameters, 0, parameters, 0, MOST_CLASSES);
            System.arraycopy(other.members, 0, members, 0, MOST_CLASSES);
            System.arraycopy(other.text, 0, text, 0, MOST_LETTERS);
            System.arraycopy(other.starts, 0, starts, 0, ALL_MEMBERS + MOST_CLASSES);
            System.arraycopy(other.ends, 0, ends, 0, ALL_MEMBERS + MOST_CLASSES);
            size = other.size;
            classes = other.classes;
        }

        boolean addClass(int howMany) {
            if (classes < 0 || classes >= MOST_CLASSES) {
                return false;
            }
            parameters[classes] = howMany;
            classes++;
            return true;
        }

        boolean addMember(int number, int kind) {
            if (!hasClass(number) || members[number] < 0 || members[number] >= MOST_MEMBERS) {
                return false;
            }
            int place = MOST_MEMBERS * number + members[number];
            kinds[place] = kind;
            beginType(place);
            members[number]++;
            return true;
        }

        void beginType(int place) {
            if (place >= 0 && place < starts.length) {
                starts[place] = size;
                ends[place] = size;
            }
        }

        boolean addSign(int place, int sign) {
            if (size < 0 || size >= text.length || place < 0 || place >= ends.length) {
                return false;
            }
            text[size] = sign;
            size++;
            ends[place] = size;
            return true;
        }

        boolean hasClass(int number) {
            return number >= 0 && number < classes && number < MOST_CLASSES;
        }

        boolean hasParameter(int number, int parameter) {
            return parameter >= 0 && parameter < parametersOf(number);
        }

        boolean hasMember(int number, int member) {
            return member >= 0 && member < membersOf(number);
        }

        int parametersOf(int number) {
            return number >= 0 && number < parameters.length ? parameters[number] : 0;
        }

        int membersOf(int number) {
            return number >= 0 && number < members.length ? members[number] : 0;
        }

        int startOf(int place) {
            return place >= 0 && place < starts.length ? starts[place] : 0;
        }

        int endOf(int place) {
            return place >= 0 && place < ends.length ? ends[place] : 0;
        }

        int signsIn(int place) {
            return endOf(place) - startOf(place);
        }

        int signAt(int at) {
            return at >= 0 && at < text.length ? text[at] : 0;
        }

        int classAbove(int number) {
            int place = ALL_MEMBERS + number;
            return hasClass(number) && signsIn(place) > 0 ? signAt(startOf(place)) : NONE;
        }

        int howManyAbove(int number) {
            int above = classAbove(number);
            int many = 0;
            for (int step = 0; step < MOST_CLASSES && above != NONE; step++) {
                many++;
                above = classAbove(above);
            }
            return many;
        }

        int allParameters() {
            int all = 0;
            for (int number = 0; number < classes; number++) {
                all += parametersOf(number);
            }
            return all;
        }

        int allMembers() {
            int all = 0;
            for (int number = 0; number < classes; number++) {
                all += membersOf(number);
            }
            return all;
        }

        int howManyPlain() {
            int plain = 0;
            for (int number = 0; number < classes; number++) {
                if (parametersOf(number) == 0) {
                    plain++;
                }
            }
            return plain;
        }

        /** The so-manieth class without parameters. */
        int plainClass(int which) {
            int left = which;
            for (int number = 0; number < classes; number++) {
                if (parametersOf(number) == 0) {
                    if (left == 0) {
                        return number;
                    }
                    left--;
                }
            }
            return 0;
        }

        boolean isClosedType(Page page) {
            int open = 1;
            for (int at = 0; at < page.size; at++) {
                int sign = page.letterAt(at) - '0';
                if (open == 0 || !hasClass(sign)) {
                    return false;
                }
                open += parametersOf(sign) - 1;
            }
            return open == 0;
        }

        /**
         * The place behind the closed type that begins at a place of a row. It is asked where calls are
         * as deep as they may be, so it calls nothing, not even to ask how many parameters a class has.
         */
        int behind(int[] row, int at) {
            int open = 1;
            int place = at < 0 ? 0 : at;
            while (place < row.length && open > 0) {
                int number = row[place];
                open += number >= 0 && number < parameters.length ? parameters[number] - 1 : -1;
                place++;
            }
            return place;
        }
    }

    /** Reads a page as a book, letter by letter, into a draft. */
    private static final class Reader {
        private static final int COUNTS = 0;
        private static final int BODY = 1;
        private static final int ABOVE = 2;
        private static final int ARGUMENTS = 3;
        private static final int MEMBERS = 4;
        private static final int TYPE = 5;

        private final Book draft;
        private int phase = COUNTS;
        private int number = 0;
        private int place = 0;
        /** How many types are still to come in the type that is being read. */
        private int open = 0;

        Reader(Book draft) {
            this.draft = draft;
        }

        int firstFault(Page page) {
            draft.clear();
            phase = COUNTS;
            number = 0;
            open = 0;
            for (int at = 0; at < page.size; at++) {
                if (!takes(page.letterAt(at))) {
                    return at;
                }
            }
            return page.size;
        }

        boolean isWhole() {
            return phase == MEMBERS && number == draft.classes - 1;
        }

        private boolean takes(int letter) {
            switch (phase) {
                case COUNTS: return takesCount(letter);
                case BODY: return takesBody(letter);
                case ABOVE: return takesAbove(letter);
                case ARGUMENTS: return takesArgument(letter);
                case MEMBERS: return takesMember(letter);
                default: return takesSign(signOf(letter));
            }
        }

        private boolean takesCount(int letter) {
            if (letter == ';') {
                phase = BODY;
                return draft.classes > 0;
            }
            int howMany = letter - '0';
            return howMany >= 0 && howMany <= MOST_PARAMETERS && draft.addClass(howMany);
        }

        /** A "<" is taken for class 0, too: that no class is less is seen at the next letter. */
        private boolean takesBody(int letter) {
            phase = letter == '<' ? ABOVE : MEMBERS;
            return letter == '<' || letter == '-';
        }

        private boolean takesAbove(int letter) {
            int above = letter - '0';
            if (above < 0 || above >= number) {
                return false;
            }
            open = 1;
            place = ALL_MEMBERS + number;
            draft.beginType(place);
            phase = ARGUMENTS;
            return takesSign(above);
        }

        private boolean takesArgument(int letter) {
            int sign = signOf(letter);
            return draft.parametersOf(sign) == 0 && takesSign(sign);
        }

        private boolean takesMember(int letter) {
            if (letter == ',') {
                number++;
                phase = BODY;
                return number < draft.classes;
            }
            int kind = KIND_LETTERS.indexOf((char) letter);
            open = 1;
            place = MOST_MEMBERS * number + draft.membersOf(number);
            phase = TYPE;
            return kind >= 0 && draft.addMember(number, kind);
        }

        private boolean takesSign(int sign) {
            if (sign == NONE) {
                return false;
            }
            open += draft.parametersOf(sign) - 1;
            if (open == 0) {
                phase = MEMBERS;
            }
            return draft.addSign(place, sign);
        }

        private int signOf(int letter) {
            if (letter == 'x') {
                return draft.hasParameter(number, 0) ? X : NONE;
            }
            if (letter == 'y') {
                return draft.hasParameter(number, 1) ? Y : NONE;
            }
            return draft.hasClass(letter - '0') ? letter - '0' : NONE;
        }
    }

    /** What an image keeps: kinds, slots, what is seen. */
    private static final class Holding {
        final int[] kinds = new int[ALL_MEMBERS];
        final int[] sizes = new int[SLOTS];
        final int[] signs = new int[ALL_SIGNS];
        final int[] seenPlaces = new int[MOST_SEEN];
        /** Of each that is seen: the kinds that it leaves, as bits. */
        final int[] seenKinds = new int[MOST_SEEN];
        int seenCount = 0;

        void begin(int[] newKinds) {
            for (int place = 0; place < ALL_MEMBERS && place < newKinds.length; place++) {
                kinds[place] = newKinds[place];
            }
            Arrays.fill(sizes, 0);
            seenCount = 0;
        }

        void copy(Holding other) {
            System.arraycopy(other.kinds, 0, kinds, 0, ALL_MEMBERS);
            System.arraycopy(other.sizes, 0, sizes, 0, SLOTS);
            System.arraycopy(other.signs, 0, signs, 0, ALL_SIGNS);
            System.arraycopy(other.seenPlaces, 0, seenPlaces, 0, MOST_SEEN);
            System.arraycopy(other.seenKinds, 0, seenKinds, 0, MOST_SEEN);
            seenCount = other.seenCount;
        }

        int kindOf(int place) {
            return place >= 0 && place < kinds.length ? kinds[place] : HIDDEN;
        }

        void setKind(int place, int kind) {
            if (place >= 0 && place < kinds.length) {
                kinds[place] = kind;
            }
        }

        int sizeOf(int slot) {
            return isSlot(slot) ? sizes[slot] : 0;
        }

        int signAt(int slot, int at) {
            return isSlot(slot) && at >= 0 && at < MOST_SIGNS ? signs[MOST_SIGNS * slot + at] : 0;
        }

        int classIn(int slot) {
            return signAt(slot, 0);
        }

        int putIntoSlot(int slot, Row row) {
            if (!isSlot(slot)) {
                return 0;
            }
            for (int at = 0; at < row.size && at < MOST_SIGNS; at++) {
                signs[MOST_SIGNS * slot + at] = row.signAt(at);
            }
            sizes[slot] = row.size;
            return row.size;
        }

        int filledSlots() {
            int filled = 0;
            for (int slot = 0; slot < SLOTS; slot++) {
                if (sizes[slot] > 0) {
                    filled++;
                }
            }
            return filled;
        }

        int allSigns() {
            int all = 0;
            for (int slot = 0; slot < SLOTS; slot++) {
                all += sizes[slot];
            }
            return all;
        }

        boolean addSeen(int place, int what, boolean could) {
            if (seenCount < 0 || seenCount >= MOST_SEEN || what < 0 || what > LAST_SEEN) {
                return false;
            }
            int kindsThatCould = KINDS_THAT_COULD[what];
            seenPlaces[seenCount] = place;
            seenKinds[seenCount] = could ? kindsThatCould : ALL_KINDS & ~kindsThatCould;
            seenCount++;
            return true;
        }

        int sortsOf(int place) {
            int sorts = ALL_KINDS;
            for (int at = 0; at < seenCount && at < MOST_SEEN; at++) {
                if (seenPlaces[at] == place) {
                    sorts &= seenKinds[at];
                }
            }
            return sorts;
        }
    }

    /** A closed type of at most MOST_SIGNS signs on its way to a slot. */
    private static final class Row {
        final int[] signs = new int[MOST_SIGNS];
        int size = 0;

        boolean add(int sign) {
            if (size < 0 || size >= signs.length) {
                return false;
            }
            signs[size] = sign;
            size++;
            return true;
        }

        int signAt(int at) {
            return at >= 0 && at < signs.length ? signs[at] : 0;
        }

        void takeSlot(Holding holding, int slot) {
            size = 0;
            addSigns(holding, MOST_SIGNS * slot, MOST_SIGNS * slot + holding.sizeOf(slot));
        }

        /** A type of the book with the arguments of a slot's type put in; false if it is too long. */
        boolean takeType(Book book, int place, Holding holding, int slot) {
            int first = MOST_SIGNS * slot + 1;
            int second = book.behind(holding.signs, first);
            int end = book.behind(holding.signs, second);
            boolean fits = true;
            size = 0;
            for (int at = book.startOf(place); at < book.endOf(place) && fits; at++) {
                int sign = book.signAt(at);
                if (sign == X) {
                    fits = addSigns(holding, first, second);
                } else if (sign == Y) {
                    fits = addSigns(holding, second, end);
                } else {
                    fits = add(sign);
                }
            }
            return fits;
        }

        private boolean addSigns(Holding holding, int from, int to) {
            boolean fits = true;
            for (int at = Math.max(from, 0); at < to && at < ALL_SIGNS && fits; at++) {
                fits = add(holding.signs[at]);
            }
            return fits;
        }
    }

    /** The ways of the parameters of all classes, and in how many rounds they come about. */
    private static final class Ways {
        /** Each round but the last one adds one bit at least. */
        private static final int MOST_ROUNDS = 2 * ALL_PARAMETERS + 1;

        private final Book book;
        /** By MOST_PARAMETERS times the class, and the parameter; within a round those of the one ahead. */
        private final int[] settled = new int[ALL_PARAMETERS];
        private final int[] next = new int[ALL_PARAMETERS];
        /** The ways of the types that are still to come, the next one last. */
        private final int[] coming = new int[MOST_LETTERS + MOST_PARAMETERS];
        int rounds = 0;

        Ways(Book book) {
            this.book = book;
        }

        /** The hidden ones, bits by place, count for nothing, whatever their kind. */
        void settle(int[] kinds, int hidden) {
            Arrays.fill(settled, 0);
            rounds = 0;
            boolean changed = true;
            for (int round = 0; round < MOST_ROUNDS && changed; round++) {
                changed = goRound(kinds, hidden);
                if (changed) {
                    rounds++;
                }
            }
        }

        int wayOf(int number, int parameter) {
            int at = MOST_PARAMETERS * number + parameter;
            return at >= 0 && at < settled.length ? settled[at] : 0;
        }

        int howManyGo(int way) {
            int many = 0;
            for (int number = 0; number < book.classes; number++) {
                for (int parameter = 0; parameter < book.parametersOf(number); parameter++) {
                    if (wayOf(number, parameter) == way) {
                        many++;
                    }
                }
            }
            return many;
        }

        /** The ways of the first parameter, and four times those of the second one, in a type. */
        int toldBy(int place, int way) {
            int found = 0;
            int open = 1;
            coming[0] = way;
            for (int at = book.startOf(place); at < book.endOf(place) && open > 0; at++) {
                open--;
                int here = coming[open];
                int sign = book.signAt(at);
                if (sign == X) {
                    found |= here;
                } else if (sign == Y) {
                    found |= here << 2;
                } else {
                    open = awaitArguments(sign, here, open);
                }
            }
            return found;
        }

        private int awaitArguments(int number, int way, int before) {
            int open = before;
            for (int parameter = book.parametersOf(number) - 1; parameter >= 0; parameter--) {
                if (open < coming.length) {
                    coming[open] = through(way, wayOf(number, parameter));
                    open++;
                }
            }
            return open;
        }

        private boolean goRound(int[] kinds, int hidden) {
            boolean changed = false;
            for (int number = 0; number < MOST_CLASSES; number++) {
                int told = toldOfClass(number, kinds, hidden);
                int at = MOST_PARAMETERS * number;
                next[at] = told & BOTH;
                next[at + 1] = told >> 2 & BOTH;
                changed |= next[at] != settled[at] || next[at + 1] != settled[at + 1];
            }
            System.arraycopy(next, 0, settled, 0, ALL_PARAMETERS);
            return changed;
        }

        private int toldOfClass(int number, int[] kinds, int hidden) {
            int told = toldBy(ALL_MEMBERS + number, WITH);
            for (int member = 0; member < book.membersOf(number); member++) {
                int place = placeOf(number, member);
                if ((hidden >> place & 1) == 0 && place < kinds.length) {
                    told |= toldBy(place, kindWays(kinds[place]));
                }
            }
            return told;
        }

        /** The way of an argument whose type goes some way and whose parameter goes another one. */
        private static int through(int way, int parameterWay) {
            int turned = (way & WITH) << 1 | (way & AGAINST) >> 1;
            return ((parameterWay & WITH) != 0 ? way : 0) | ((parameterWay & AGAINST) != 0 ? turned : 0);
        }
    }

    /**
     * Whether one closed type suits for another one. Both lie in one row, behind the classes
     * themselves: a type is known by where it begins, one that is lifted by where its arguments
     * begin, so that nothing is copied.
     */
    private static final class Fitting {
        private static final int ONE = MOST_CLASSES;
        private static final int OTHER = MOST_CLASSES + MOST_SIGNS;
        private static final int DEEPEST = MOST_SIGNS;

        private final Book book;
        private final Ways ways;
        private final int[] row = new int[MOST_CLASSES + 2 * MOST_SIGNS];

        Fitting(Book book, Ways ways) {
            this.book = book;
            this.ways = ways;
            for (int number = 0; number < MOST_CLASSES; number++) {
                row[number] = number;
            }
        }

        void layOne(Row type) {
            lay(type, ONE);
        }

        void layOther(Row type) {
            lay(type, OTHER);
        }

        boolean oneFits() {
            return fits(ONE, OTHER, 0);
        }

        private void lay(Row type, int from) {
            for (int at = 0; at < type.size && from + at < row.length; at++) {
                row[from + at] = type.signAt(at);
            }
        }

        /** Arguments that a class lacks are carried along and never looked at. */
        private boolean fits(int one, int other, int depth) {
            if (depth > DEEPEST) {
                return false;
            }
            int number = signAt(one);
            int goal = signAt(other);
            int first = argument(one, 0);
            int second = argument(one, 1);
            for (int step = 0; step < MOST_CLASSES && number > goal; step++) {
                int above = book.startOf(ALL_MEMBERS + number);
                int nextSecond = putIn(book.signAt(above + 2), first, second);
                first = putIn(book.signAt(above + 1), first, second);
                second = nextSecond;
                number = book.classAbove(number);
            }
            return number == goal
                && argumentFits(first, other, 0, depth)
                && argumentFits(second, other, 1, depth);
        }

        private boolean argumentFits(int argument, int other, int parameter, int depth) {
            int number = signAt(other);
            if (!book.hasParameter(number, parameter)) {
                return true;
            }
            int otherArgument = argument(other, parameter);
            switch (ways.wayOf(number, parameter)) {
                case WITH: return fits(argument, otherArgument, depth + 1);
                case AGAINST: return fits(otherArgument, argument, depth + 1);
                case BOTH: return isAlike(argument, otherArgument, depth + 1);
                default: return true;
            }
        }

        /** Whether each suits for the other one: what is above is a lesser class, so both are of one. */
        private boolean isAlike(int one, int other, int depth) {
            int number = signAt(one);
            if (depth > DEEPEST || number != signAt(other)) {
                return false;
            }
            for (int parameter = 0; parameter < book.parametersOf(number); parameter++) {
                if (ways.wayOf(number, parameter) != 0
                    && !isAlike(argument(one, parameter), argument(other, parameter), depth + 1)) {
                    return false;
                }
            }
            return true;
        }

        /** Where an argument of what is above begins; a class without parameters is its own place. */
        private static int putIn(int sign, int first, int second) {
            if (sign == X) {
                return first;
            }
            return sign == Y ? second : sign;
        }

        private int argument(int at, int parameter) {
            return parameter == 0 ? at + 1 : book.behind(row, at + 1);
        }

        private int signAt(int at) {
            return at >= 0 && at < row.length ? row[at] : 0;
        }
    }

    /** Types drawn by a seed. */
    private static final class Draws {
        private final Book book;
        private final Fitting fits;
        private final Row type = new Row();
        long seed = 0;
        int fitting = 0;
        int signs = 0;

        Draws(Book book, Fitting fits) {
            this.book = book;
            this.fits = fits;
        }

        void run(int times, int firstSeed) {
            seed = firstSeed;
            fitting = 0;
            signs = 0;
            for (int time = 0; time < times; time++) {
                drawType();
                fits.layOne(type);
                signs += type.size;
                drawType();
                fits.layOther(type);
                signs += type.size;
                if (fits.oneFits()) {
                    fitting++;
                }
            }
        }

        private void drawType() {
            type.size = 0;
            int number = draw(book.classes);
            type.add(number);
            for (int parameter = 0; parameter < book.parametersOf(number); parameter++) {
                drawArgument();
            }
        }

        private void drawArgument() {
            int number = draw(book.classes);
            type.add(number);
            for (int parameter = 0; parameter < book.parametersOf(number); parameter++) {
                type.add(book.plainClass(draw(book.howManyPlain())));
            }
        }

        private int draw(int howMany) {
            seed = (1103515245L * seed + 12345L) % 2147483648L;
            return howMany > 0 ? (int) (seed / 65536L % howMany) : 0;
        }
    }
}
