/** Types drawn by a seed, as texts, for the classes of a book. */
final class Drawing {
    private final String counts;
    private final String plain;
    int seed;

    /** The counts of a book, how many parameters each class has, and the first seed. */
    Drawing(String counts, int seed) {
        this.counts = counts;
        this.seed = seed;
        StringBuilder found = new StringBuilder();
        for (int number = 0; number < counts.length(); number++) {
            if (counts.charAt(number) == '0') {
                found.append(number);
            }
        }
        plain = found.toString();
    }

    static int next(int seed) {
        return (int) ((1103515245L * seed + 12345L) % (1L << 31));
    }

    int draw(int howMany) {
        seed = next(seed);
        return seed / 65536 % howMany;
    }

    String type() {
        int number = draw(counts.length());
        StringBuilder text = new StringBuilder().append(number);
        for (int many = counts.charAt(number) - '0'; many > 0; many--) {
            int argument = draw(counts.length());
            text.append(argument);
            for (int more = counts.charAt(argument) - '0'; more > 0; more--) {
                text.append(plain.charAt(draw(plain.length())));
            }
        }
        return text.toString();
    }
}
