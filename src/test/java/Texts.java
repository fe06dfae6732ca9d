import java.util.Random;

/** TEXTS by chance: good ones by the grammar, and ones with something wrong in them. */
final class Texts {
    private static final String[] WORDS = {"size", "still", "stirs", "gone", "heard", "friends", "glance", "kind",
        "afraid", "skill", "asked", "alone"};
    private static final String[] SCRAPS = {"go", "hold", "if", "not", "or", "and", "(", ")", "[", "]", "<", ">", "=",
        "+", "-", "*", "/", ";", "7", "1000", "1001", "00009", "size", "sizes", "Go", "_", "\u00ff", "\u0000", "\t", ""};

    private final Random random;

    Texts(Random random) {
        this.random = random;
    }

    private boolean one(int in) {
        return random.nextInt(in) == 0;
    }

    private String gap() {
        return one(4) ? "" : one(6) ? "  " : " ";
    }

    /** Rows of letters, and rows of digits, need a blank between them. */
    static String join(String left, String gap, String right) {
        boolean letters = left.matches("(?s).*[a-z]") && right.matches("(?s)[a-z].*");
        boolean figures = left.matches("(?s).*[0-9]") && right.matches("(?s)[0-9].*");
        return left + (gap.isEmpty() && (letters || figures) ? " " : gap) + right;
    }

    private String part(int depth) {
        if (depth < 3 && one(6)) return join(join("[", gap(), sum(depth + 1)), gap(), "]");
        if (one(2)) return WORDS[random.nextInt(WORDS.length)];
        return one(8) ? "1000" : one(10) ? "0" : String.valueOf(random.nextInt(one(3) ? 100 : 12));
    }

    private String term(int depth) {
        String all = part(depth);
        while (one(3)) all = join(join(all, gap(), one(3) ? "/" : "*"), gap(), part(depth));
        return all;
    }

    private String sum(int depth) {
        String all = term(depth);
        while (one(3)) all = join(join(all, gap(), one(2) ? "+" : "-"), gap(), term(depth));
        return all;
    }

    private String plain(int depth) {
        if (one(6)) return join("not", gap(), plain(depth));
        if (depth < 3 && one(5)) return join(join("(", gap(), test(depth + 1)), gap(), ")");
        return join(join(sum(depth), gap(), "<>=".substring(random.nextInt(3)).substring(0, 1)), gap(), sum(depth));
    }

    private String both(int depth) {
        String all = plain(depth);
        while (one(4)) all = join(join(all, gap(), "and"), gap(), plain(depth));
        return all;
    }

    private String test(int depth) {
        String all = both(depth);
        while (one(4)) all = join(join(all, gap(), "or"), gap(), both(depth));
        return all;
    }

    private String clause() {
        String all = join(one(2) ? "go" : "hold", gap(), sum(0));
        return one(2) ? all : join(join(all, gap(), "if"), gap(), test(0));
    }

    String good() {
        String all = gap() + clause();
        int more = one(8) ? random.nextInt(14) : random.nextInt(4);
        for (int i = 0; i < more; i++) all = join(join(all, gap(), ";"), gap(), clause());
        return cut(all + gap());
    }

    /** Of few clauses, whose chances are seldom 0 or 100. */
    String lively() {
        StringBuilder all = new StringBuilder("go ").append(random.nextInt(40)).append(" + ").append(word());
        for (int i = random.nextInt(3); i > 0; i--) {
            all.append(" + ").append(random.nextInt(12)).append(" * ").append(word());
        }
        for (int i = random.nextInt(4); i > 0; i--) {
            all.append("; hold ").append(random.nextInt(30)).append(one(2) ? "" : " + " + word());
            if (one(2)) all.append(" if ").append(word()).append(" > ").append(random.nextInt(3));
        }
        return all.length() > 400 ? "go 5" : all.toString();
    }

    private String word() {
        return WORDS[random.nextInt(WORDS.length)];
    }

    String wrong() {
        StringBuilder all = new StringBuilder(one(3) ? "" : good());
        for (int i = random.nextInt(3) + 1; i > 0; i--) {
            int at = random.nextInt(all.length() + 1);
            if (one(2)) all.delete(at, Math.min(all.length(), at + random.nextInt(6)));
            all.insert(Math.min(at, all.length()), SCRAPS[random.nextInt(SCRAPS.length)]);
        }
        return cut(all.toString());
    }

    static String cut(String text) {
        return text.length() > 400 ? text.substring(0, 400) : text;
    }
}
