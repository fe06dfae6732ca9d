import java.math.BigInteger;
import java.util.ArrayList;
import java.util.Arrays;
import java.util.HashMap;
import java.util.List;
import java.util.Map;

/** The document's words once more, as plainly and as differently from SmokeRoom as can be, to be compared with it. */
final class Model {
    static final int NONE = -1;
    static final int NOTHING = -10000000;
    static final BigInteger HUNDRED = BigInteger.valueOf(100);
    static final BigInteger MILLION = BigInteger.valueOf(1000000);

    /** All that an IMAGE keeps, in lists that can be copied whole. */
    static final class Kept {
        int use;
        int lasts = 6;
        int force = NONE;
        int[][] trait = new int[3][5];
        boolean[][] friends = new boolean[5][5];
        int[] size = {10, 20, 30, 40, 50, 60, 70, 80, 90, 99, 99, 99};
        PlanState[] plans = new PlanState[6];
        List<String> laws = new ArrayList<>();
        List<Integer> weights = new ArrayList<>();
        List<int[]> trials = new ArrayList<>();
        List<int[]> streets = new ArrayList<>();
        List<int[]> windows = new ArrayList<>();

        Kept() {
            for (int p = 0; p < 6; p++) {
                plans[p] = new PlanState();
            }
        }

        Kept copy() {
            Kept c = new Kept();
            c.use = use;
            c.lasts = lasts;
            c.force = force;
            for (int i = 0; i < 3; i++) {
                c.trait[i] = trait[i].clone();
            }
            for (int i = 0; i < 5; i++) {
                c.friends[i] = friends[i].clone();
            }
            c.size = size.clone();
            for (int p = 0; p < 6; p++) {
                c.plans[p] = plans[p].copy();
            }
            c.laws = new ArrayList<>(laws);
            c.weights = new ArrayList<>(weights);
            c.trials = new ArrayList<>(trials);
            c.streets = new ArrayList<>(streets);
            c.windows = new ArrayList<>(windows);
            return c;
        }
    }

    static final class PlanState {
        int many;
        int[] how = new int[5];
        int[] from = new int[5];
        int[] sees = {31, 31, 31, 31, 31};
        int[] hears = {31, 31, 31, 31, 31};
        int[] asked = {-1, -1, -1, -1, -1};

        PlanState copy() {
            PlanState c = new PlanState();
            c.many = many;
            c.how = how.clone();
            c.from = from.clone();
            c.sees = sees.clone();
            c.hears = hears.clone();
            c.asked = asked.clone();
            return c;
        }
    }

    private Kept k = new Kept();
    private final Kept[] images = new Kept[2];
    private String tape = "";
    private int faultAt = NONE;
    private int[] world = {-1, -1, -1, -1, -1};
    private final int[] refused = new int[10];
    private int status = 0;

    private int no(int code) {
        status = code;
        refused[-code]++;
        return code;
    }

    private int yes(int answer) {
        status = 0;
        return answer;
    }

    private PlanState plan() {
        return k.plans[k.use];
    }

    private static boolean in(int v, int a, int b) {
        return a <= v && v <= b;
    }

    int use(int plan) {
        if (!in(plan, 0, 5)) return no(-1);
        int was = k.use;
        k.use = plan;
        return yes(was);
    }

    int people(int many) {
        if (!in(many, 0, 5)) return no(-1);
        int was = plan().many;
        plan().many = many;
        return yes(was);
    }

    int person(int person, int what, int value) {
        if (!in(person, 0, 4) || !in(what, 0, 2) || value < 0 || value > 9 || what == 0 && value > 7) return no(-1);
        int was = k.trait[what][person];
        k.trait[what][person] = value;
        return yes(was);
    }

    int paid(int person, int how, int glance) {
        if (!in(person, 0, 4) || !in(how, 0, 2) || !in(glance, 0, 11) || how != 2 && glance != 0) return no(-1);
        int was = plan().how[person];
        plan().how[person] = how;
        plan().from[person] = glance;
        return yes(was);
    }

    int sees(int person, int what, int others) {
        if (!in(person, 0, 4) || !in(what, 0, 1) || !in(others, 0, 31)) return no(-1);
        int[] of = what == 0 ? plan().sees : plan().hears;
        int was = of[person];
        of[person] = others;
        return yes(was);
    }

    int ask(int person, int glance) {
        if (!in(person, 0, 4) || !in(glance, -1, 11)) return no(-1);
        int was = plan().asked[person];
        plan().asked[person] = glance;
        return yes(was);
    }

    int friends(int one, int other, int are) {
        if (!in(one, 0, 4) || !in(other, 0, 4) || one == other || !in(are, 0, 1)) return no(-1);
        int was = k.friends[one][other] ? 1 : 0;
        k.friends[one][other] = are == 1;
        k.friends[other][one] = are == 1;
        return yes(was);
    }

    int lasts(int glances) {
        if (!in(glances, 1, 12)) return no(-1);
        int was = k.lasts;
        k.lasts = glances;
        return yes(was);
    }

    int size(int glance, int size) {
        if (!in(glance, 0, 11) || !in(size, 0, 99)) return no(-1);
        int was = k.size[glance];
        k.size[glance] = size;
        return yes(was);
    }

    int feed(int a, int b, int c, int d, int e) {
        if (tape.length() + 20 > 400) return NONE;
        StringBuilder all = new StringBuilder(tape);
        for (int v : new int[] {a, b, c, d, e}) {
            all.append((char) (v >>> 24)).append((char) (v >>> 16 & 255)).append((char) (v >>> 8 & 255)).append((char) (v & 255));
        }
        tape = all.toString();
        return tape.length();
    }

    int end(int n) {
        if (n < 0 || n > tape.length()) return NONE;
        tape = tape.substring(0, n);
        return n;
    }

    int row() {
        String t = tape;
        tape = "";
        if (t.isEmpty() || t.length() > 48) return no(-6);
        int told = 0;
        while (4 * told + 4 <= t.length()) {
            long v = 0;
            for (int i = 0; i < 4; i++) {
                v = v * 256 + t.charAt(4 * told + i);
            }
            k.size[told] = v <= 99 ? (int) v : 0;
            told++;
        }
        return yes(told);
    }

    int law() {
        String t = tape;
        tape = "";
        if (k.laws.size() == 4) return no(-5);
        faultAt = faultOf(t);
        if (faultAt != NONE) return no(-6);
        k.laws.add(t);
        k.weights.add(1);
        return yes(k.laws.size() - 1);
    }

    int fault() {
        return faultAt;
    }

    int force(int law) {
        if (law != NONE && !isLaw(law)) return no(-2);
        int was = k.force;
        k.force = law;
        return yes(was);
    }

    int reasons(int law) {
        return isLaw(law) ? reasonsOf(k.laws.get(law)) : NONE;
    }

    private boolean isLaw(int law) {
        return law >= 0 && law < k.laws.size();
    }

    // ---- TEXTS

    static final class Token {
        final int at;
        final String text;

        Token(int at, String text) {
            this.at = at;
            this.text = text;
        }
    }

    private static boolean letter(char c) {
        return c >= 'a' && c <= 'z';
    }

    private static boolean figure(char c) {
        return c >= '0' && c <= '9';
    }

    static List<Token> tokens(String t) {
        List<Token> all = new ArrayList<>();
        int i = 0;
        while (i < t.length()) {
            char c = t.charAt(i);
            int j = i + 1;
            if (letter(c)) {
                while (j < t.length() && letter(t.charAt(j))) j++;
            } else if (figure(c)) {
                while (j < t.length() && figure(t.charAt(j))) j++;
            }
            if (c != ' ') all.add(new Token(i, t.substring(i, j)));
            i = j;
        }
        all.add(new Token(t.length(), ""));
        return all;
    }

    private static final List<String> WORDS = Arrays.asList("size", "still", "stirs", "gone", "heard", "friends",
        "glance", "kind", "afraid", "skill", "asked", "alone");

    private static boolean isNumber(String token) {
        return !token.isEmpty() && figure(token.charAt(0));
    }

    /** An automaton over the tokens with a stack of what is open, not a descent. */
    static int faultOf(String t) {
        String open = "";
        int clauses = 0;
        int parts = 0;
        // 'c' a clause begins, 's' its sum begins, 'o' an operand is due, 'p' a PLAIN begins, 'a' behind an operand, 'q' behind a PLAIN
        char state = 'c';
        for (Token token : tokens(t)) {
            String x = token.text;
            long brackets = open.chars().filter(b -> b == '(' || b == '[').count();
            char top = open.isEmpty() ? ' ' : open.charAt(open.length() - 1);
            boolean arithmetic = x.equals("+") || x.equals("-") || x.equals("*") || x.equals("/");
            if (state == 'c') {
                if (clauses == 12 || !x.equals("go") && !x.equals("hold")) return token.at;
                clauses++;
                open = "C";
                state = 'o';
                continue;
            }
            if (state == 'p') {
                if (x.equals("not")) continue;
                if (x.equals("(")) {
                    if (brackets == 8) return token.at;
                    open += "(";
                    continue;
                }
                open += "L";
                state = 'o';
            }
            if (state == 'o') {
                if (x.equals("[")) {
                    if (brackets == 8) return token.at;
                    open += "[";
                    continue;
                }
                boolean part = WORDS.contains(x)
                    || isNumber(x) && new BigInteger(x).compareTo(BigInteger.valueOf(1000)) <= 0;
                if (!part || parts == 50) return token.at;
                parts++;
                state = 'a';
                continue;
            }
            if (state == 'a') {
                if (arithmetic) {
                    state = 'o';
                    continue;
                }
                if (top == '[') {
                    if (!x.equals("]")) return token.at;
                    open = open.substring(0, open.length() - 1);
                    continue;
                }
                if (top == 'L') {
                    if (!x.equals("<") && !x.equals(">") && !x.equals("=")) return token.at;
                    open = open.substring(0, open.length() - 1) + "R";
                    state = 'o';
                    continue;
                }
                if (top == 'C') {
                    if (x.isEmpty()) return NONE;
                    if (x.equals("if")) {
                        open = "T";
                        state = 'p';
                    } else if (x.equals(";")) {
                        state = 'c';
                    } else {
                        return token.at;
                    }
                    continue;
                }
                open = open.substring(0, open.length() - 1);
                top = open.charAt(open.length() - 1);
            }
            if (x.equals("or") || x.equals("and")) {
                state = 'p';
            } else if (top == '(' && x.equals(")")) {
                open = open.substring(0, open.length() - 1);
                state = 'q';
            } else if (top == 'T' && x.equals(";")) {
                state = 'c';
            } else {
                return top == 'T' && x.isEmpty() ? NONE : token.at;
            }
        }
        throw new IllegalStateException();
    }

    static int reasonsOf(String t) {
        int n = 0;
        for (Token token : tokens(t)) {
            if (token.text.equals("hold")) n++;
        }
        return n;
    }

    static final class Broken extends RuntimeException {
        private static final long serialVersionUID = 1L;

        Broken() {
            super(null, null, false, false);
        }
    }

    /** Reads and reckons at once; what is not asked is read with live = false and can't break. */
    static final class Asked {
        final List<Token> tokens;
        final Map<String, Integer> facts;
        int at;

        Asked(String clause, Map<String, Integer> facts) {
            tokens = tokens(clause);
            this.facts = facts;
        }

        String now() {
            return tokens.get(at).text;
        }

        boolean eat(String x) {
            if (!now().equals(x)) return false;
            at++;
            return true;
        }

        long checked(long v) {
            if (Math.abs(v) > 1000000000L) throw new Broken();
            return v;
        }

        long sum(boolean live) {
            long v = term(live);
            while (true) {
                if (eat("+")) {
                    v = checked(v + term(live));
                } else if (eat("-")) {
                    v = checked(v - term(live));
                } else {
                    return v;
                }
            }
        }

        long term(boolean live) {
            long v = part(live);
            while (true) {
                if (eat("*")) {
                    v = checked(v * part(live));
                } else if (eat("/")) {
                    long w = part(live);
                    if (live && w == 0) throw new Broken();
                    v = live ? v / w : 0;
                } else {
                    return v;
                }
            }
        }

        long part(boolean live) {
            if (eat("[")) {
                long v = sum(live);
                eat("]");
                return v;
            }
            String x = now();
            at++;
            long v = isNumber(x) ? Long.parseLong(new BigInteger(x).toString()) : facts.get(x);
            return live ? v : 0;
        }

        boolean test(boolean live) {
            boolean v = both(live);
            while (eat("or")) {
                boolean w = both(live && !v);
                v = v || w;
            }
            return v;
        }

        boolean both(boolean live) {
            boolean v = plain(live);
            while (eat("and")) {
                boolean w = plain(live && v);
                v = v && w;
            }
            return v;
        }

        boolean plain(boolean live) {
            if (eat("not")) return !plain(live);
            if (eat("(")) {
                boolean v = test(live);
                eat(")");
                return v;
            }
            long left = sum(live);
            String sign = now();
            at++;
            long right = sum(live);
            return sign.equals("<") ? left < right : sign.equals(">") ? left > right : left == right;
        }
    }

    static long chanceByText(String text, int without, Map<String, Integer> facts) {
        long go = 0;
        long hold = 0;
        int reason = 0;
        for (String clause : text.split(";")) {
            Asked a = new Asked(clause, facts);
            boolean goes = a.eat("go");
            if (!goes) a.eat("hold");
            boolean leave = !goes && reason++ == without;
            try {
                long v = a.sum(true);
                boolean holds = !a.eat("if") || a.test(true);
                if (!holds || leave) continue;
                if (goes) go = v;
                else hold += Math.max(0, v);
            } catch (Broken b) {
                continue;
            }
        }
        return Math.max(0, Math.min(100, go - hold));
    }

    // ---- a room as it is looked at

    static final class View {
        PlanState p;
        int[][] trait;
        boolean[][] friends;
        int[] size;
        String law;
        int without = NONE;

        int chance(int who, int glance, int stirs, int gone) {
            if (p.how[who] == 1) return 0;
            if (p.how[who] == 2) return glance >= p.from[who] ? 100 : 0;
            if (law == null) return 0;
            Map<String, Integer> f = new HashMap<>();
            for (String w : WORDS) f.put(w, 0);
            f.put("alone", 1);
            for (int o = 0; o < p.many; o++) {
                if (o == who) continue;
                boolean stir = (stirs >> o & 1) == 1;
                boolean away = (gone >> o & 1) == 1;
                if ((p.hears[who] >> o & 1) == 1 && stir) f.merge("heard", 1, Integer::sum);
                if ((p.sees[who] >> o & 1) == 0) continue;
                f.put("alone", 0);
                f.merge(stir ? "stirs" : away ? "gone" : "still", 1, Integer::sum);
                if ((stir || away) && friends[who][o]) f.merge("friends", 1, Integer::sum);
            }
            f.put("size", size[glance]);
            f.put("glance", glance);
            f.put("kind", trait[0][who]);
            f.put("afraid", trait[1][who]);
            f.put("skill", trait[2][who]);
            f.put("asked", p.asked[who] >= 0 && p.asked[who] <= glance ? 1 : 0);
            return (int) chanceByText(law, without, f);
        }

        /** The upper number by all ways that there are; who: NONE for ANY. */
        BigInteger exact(int who, int glances) {
            Map<Integer, BigInteger> ways = new HashMap<>();
            ways.put(0, BigInteger.ONE);
            for (int g = 0; g < glances; g++) {
                Map<Integer, BigInteger> later = new HashMap<>();
                for (Map.Entry<Integer, BigInteger> e : ways.entrySet()) {
                    int stirs = e.getKey() & 31;
                    int gone = e.getKey() >> 5;
                    int[] c = new int[p.many];
                    for (int q = 0; q < p.many; q++) {
                        c[q] = ((stirs | gone) >> q & 1) == 1 ? -1 : chance(q, g, stirs, gone);
                    }
                    for (int go = 0; go < 1 << p.many; go++) {
                        long factor = 1;
                        for (int q = 0; q < p.many; q++) {
                            boolean goes = (go >> q & 1) == 1;
                            factor *= c[q] < 0 ? (goes ? 0 : 100) : goes ? c[q] : 100 - c[q];
                        }
                        if (factor != 0) {
                            later.merge((gone | stirs) << 5 | go, e.getValue().multiply(BigInteger.valueOf(factor)), BigInteger::add);
                        }
                    }
                }
                ways = later;
            }
            BigInteger sum = BigInteger.ZERO;
            for (Map.Entry<Integer, BigInteger> e : ways.entrySet()) {
                int went = e.getKey() & 31 | e.getKey() >> 5;
                if (who == NONE ? went != 0 : (went >> who & 1) == 1) sum = sum.add(e.getValue());
            }
            return sum;
        }

        BigInteger below(int glances) {
            return HUNDRED.pow(p.many * glances);
        }

        /** ALONE by 100 to the power of the GLANCES; LINE by the number below of all. */
        BigInteger lonely(int who, int glances) {
            if (who != NONE) {
                View v = copy();
                BigInteger stays = BigInteger.ONE;
                v.p.sees[who] = 0;
                v.p.hears[who] = 0;
                for (int g = 0; g < glances; g++) {
                    stays = stays.multiply(BigInteger.valueOf(100 - v.chance(who, g, 0, 0)));
                }
                return HUNDRED.pow(glances).subtract(stays);
            }
            BigInteger stays = BigInteger.ONE;
            for (int q = 0; q < p.many; q++) {
                stays = stays.multiply(HUNDRED.pow(glances).subtract(lonely(q, glances)));
            }
            return below(glances).subtract(stays);
        }

        View copy() {
            View v = new View();
            v.p = p.copy();
            v.trait = trait;
            v.friends = friends;
            v.size = size;
            v.law = law;
            v.without = without;
            return v;
        }
    }

    private View view(int plan, int law) {
        View v = new View();
        v.p = k.plans[plan].copy();
        v.trait = k.trait;
        v.friends = new boolean[5][];
        for (int i = 0; i < 5; i++) v.friends[i] = k.friends[i].clone();
        v.size = k.size.clone();
        v.law = law == NONE ? null : k.laws.get(law);
        return v;
    }

    private View here() {
        return view(k.use, k.force);
    }

    private static int millionths(BigInteger upper, BigInteger lower) {
        return upper.multiply(MILLION).divide(lower).intValueExact();
    }

    private int any(View v) {
        return millionths(v.exact(NONE, k.lasts), v.below(k.lasts));
    }

    private boolean there(int person) {
        return in(person, 0, plan().many - 1);
    }

    private boolean askable(int person, int glances) {
        return (person == NONE || there(person)) && in(glances, 0, k.lasts);
    }

    int chance(int person, int glance, int stirs, int gone) {
        if (!there(person) || !in(glance, 0, 11) || !in(stirs, 0, 31) || !in(gone, 0, 31)) return NONE;
        int both = stirs & gone;
        return here().chance(person, glance, stirs & ~both, gone & ~both);
    }

    int odds(int person, int glances) {
        if (!askable(person, glances)) return NONE;
        return millionths(here().exact(person, glances), here().below(glances));
    }

    int digits(int person, int glances, int n) {
        if (!askable(person, glances) || !in(n, 0, 14)) return NONE;
        return here().exact(person, glances).divide(BigInteger.TEN.pow(9 * n)).mod(BigInteger.TEN.pow(9)).intValueExact();
    }

    int alone(int person, int glances) {
        if (!askable(person, glances)) return NONE;
        BigInteger lower = person == NONE ? here().below(glances) : HUNDRED.pow(glances);
        return millionths(here().lonely(person, glances), lower);
    }

    private int reasonsInForce() {
        return k.force == NONE ? 0 : reasonsOf(k.laws.get(k.force));
    }

    int held(int plan, int reason) {
        if (!in(plan, 0, 5) || !in(reason, 0, reasonsInForce() - 1)) return NOTHING;
        View v = view(plan, k.force);
        int with = any(v);
        v.without = reason;
        return any(v) - with;
    }

    int parts(int one, int other, int what) {
        return gentle(one, other, 891, what);
    }

    int gentle(int one, int other, int fright, int what) {
        int r = reasonsInForce();
        if (!in(one, 0, r - 1) || !in(other, 0, r - 1) || !in(fright, 0, 891) || !in(what, 0, 1)) return NONE;
        int best = NONE;
        int by = NONE;
        for (int p = 0; p < 6; p++) {
            if (k.plans[p].many == 0 || fright(p) > fright) continue;
            int apart = Math.abs(held(p, one) - held(p, other));
            if (apart > by) {
                by = apart;
                best = p;
            }
        }
        return what == 0 ? best : by;
    }

    int fright(int plan) {
        if (!in(plan, 0, 5)) return NONE;
        int best = 0;
        for (int g = 0; g < k.lasts; g++) {
            for (int p = 0; p < k.plans[plan].many; p++) best = Math.max(best, k.size[g] * k.trait[1][p]);
        }
        return best;
    }

    int moved(int plan, int what) {
        if (!in(plan, 0, 5) || !in(what, 0, 10)) return NOTHING;
        View v = view(plan, k.force);
        int was = any(v);
        for (int p = 0; p < 5; p++) {
            if (what == 0 || what == 1) Arrays.fill(v.friends[p], what == 0);
            if (what == 2) v.p.asked[p] = 0;
            if (what == 3) v.p.asked[p] = NONE;
            if (what == 4) v.p.how[p] = 0;
            if (what == 7) v.p.sees[p] = 31;
            if (what == 8) v.p.sees[p] = 0;
            if (what == 9) v.p.hears[p] = 31;
            if (what == 10) v.p.hears[p] = 0;
        }
        if (what == 5 || what == 6) Arrays.fill(v.size, what == 5 ? 99 : 0);
        return any(v) - was;
    }

    int span(int what, int most) {
        if (!in(what, 0, 10) || !in(most, 0, 1)) return NOTHING;
        List<Integer> all = new ArrayList<>();
        for (int p = 0; p < 6; p++) {
            if (k.plans[p].many > 0) all.add(moved(p, what));
        }
        return all.isEmpty() ? NOTHING : most == 1 ? java.util.Collections.max(all) : java.util.Collections.min(all);
    }

    int crowd(int person, int glances) {
        if (!askable(person, glances)) return NONE;
        View v = here();
        BigInteger together = v.exact(person, glances);
        BigInteger lower = person == NONE ? v.below(glances) : HUNDRED.pow(glances);
        return together.multiply(lower).compareTo(v.lonely(person, glances).multiply(v.below(glances))) + 1;
    }

    int sooner(int person, int millionths) {
        if (!askable(person, 0) || !in(millionths, 0, 1000000)) return NONE;
        for (int t = 0; t <= k.lasts; t++) {
            if (odds(person, t) >= millionths) return t;
        }
        return NONE;
    }

    int words(int millionths) {
        if (!in(millionths, 0, 1000000)) return NONE;
        int best = NONE;
        for (int bits = (1 << plan().many) - 1; bits >= 0; bits--) {
            View v = here();
            for (int p = 0; p < 5; p++) {
                if ((bits >> p & 1) == 1) v.p.asked[p] = 0;
            }
            if (any(v) >= millionths && (best == NONE || Integer.bitCount(bits) <= Integer.bitCount(best))) best = bits;
        }
        return best;
    }

    int few() {
        int best = NONE;
        BigInteger upper = null;
        BigInteger lower = null;
        for (int n = 1; n <= plan().many; n++) {
            View v = here();
            v.p.many = n;
            BigInteger u = v.exact(NONE, k.lasts);
            BigInteger l = v.below(k.lasts);
            if (best == NONE || u.multiply(lower).compareTo(upper.multiply(l)) > 0) {
                best = n;
                upper = u;
                lower = l;
            }
        }
        return best;
    }

    private long seed;

    private int[] play() {
        View v = here();
        int[] when = {-1, -1, -1, -1, -1};
        for (int g = 0; g < k.lasts; g++) {
            int stirs = 0;
            int gone = 0;
            for (int p = 0; p < 5; p++) {
                if (when[p] >= 0 && when[p] == g - 1) stirs |= 1 << p;
                if (when[p] >= 0 && when[p] < g - 1) gone |= 1 << p;
            }
            int[] after = when.clone();
            for (int p = 0; p < v.p.many; p++) {
                if (when[p] >= 0) continue;
                seed = (seed * 1103 + 12345) % 1000003;
                if (seed % 100 < v.chance(p, g, stirs, gone)) after[p] = g;
            }
            when = after;
        }
        return when;
    }

    private static int bits(int[] when) {
        int bits = 0;
        for (int p = 0; p < 5; p++) {
            if (when[p] >= 0) bits |= 1 << p;
        }
        return bits;
    }

    int run(int seed) {
        if (!in(seed, 0, 1000000)) return no(-1);
        this.seed = seed;
        world = play();
        return yes(bits(world));
    }

    int went(int person) {
        return in(person, 0, 4) ? world[person] : NONE;
    }

    int worlds(int n, int seed) {
        if (!in(n, 1, 100) || !in(seed, 0, 1000000)) return NONE;
        this.seed = seed;
        int any = 0;
        for (int i = 0; i < n; i++) {
            if (bits(play()) != 0) any++;
        }
        return any;
    }

    int trial(int plan, int any) {
        if (!in(plan, 0, 5) || !in(any, 0, 1)) return no(-1);
        if (k.trials.size() == 8) return no(-5);
        k.trials.add(new int[] {plan, any});
        return yes(k.trials.size() - 1);
    }

    int weigh(int law, int weight) {
        if (!in(weight, 0, 100)) return no(-1);
        if (!isLaw(law)) return no(-2);
        return yes(k.weights.set(law, weight));
    }

    private int oddsOf(int law, List<int[]> trials) {
        BigInteger all = BigInteger.ZERO;
        BigInteger own = BigInteger.ZERO;
        for (int l = 0; l < k.laws.size(); l++) {
            BigInteger counts = BigInteger.valueOf(k.weights.get(l));
            for (int[] t : trials) {
                View v = view(t[0], l);
                BigInteger upper = v.exact(NONE, k.lasts);
                counts = counts.multiply(t[1] == 1 ? upper : v.below(k.lasts).subtract(upper));
            }
            all = all.add(counts);
            if (l == law) own = counts;
        }
        return all.signum() == 0 ? 0 : millionths(own, all);
    }

    int likely(int law) {
        return isLaw(law) ? oddsOf(law, k.trials) : NONE;
    }

    int printed(int law, int plan, int many, int most) {
        if (!isLaw(law) || !in(plan, 0, 5) || !in(many, 0, 4) || !in(most, 0, 1)) return NONE;
        List<Integer> all = new ArrayList<>();
        for (int any = 0; any <= many; any++) {
            List<int[]> trials = new ArrayList<>(k.trials);
            for (int i = 0; i < many; i++) trials.add(new int[] {plan, i < any ? 1 : 0});
            all.add(oddsOf(law, trials));
        }
        return most == 1 ? java.util.Collections.max(all) : java.util.Collections.min(all);
    }

    int next(int law, int other, int what) {
        if (!isLaw(law) || !isLaw(other) || !in(what, 0, 1)) return NONE;
        int best = NONE;
        int by = NONE;
        for (int p = 5; p >= 0; p--) {
            if (k.plans[p].many == 0) continue;
            int apart = Math.abs(any(view(p, law)) - any(view(p, other)));
            if (apart >= by) {
                by = apart;
                best = p;
            }
        }
        return what == 0 ? best : by;
    }

    int street(int things, int many, int helped) {
        if (!in(things, 0, 7) || !in(many, 1, 99) || !in(helped, 0, 1)) return no(-1);
        if (k.streets.size() == 40) return no(-5);
        k.streets.add(new int[] {things, many, helped});
        return yes(k.streets.size() - 1);
    }

    int streets(int thing, int with, int what) {
        if (!in(thing, 0, 2) || !in(with, 0, 1) || !in(what, 0, 2)) return NONE;
        int sum = 0;
        for (int[] s : k.streets) {
            if ((s[0] & 1 << thing) != 0 == (with == 1)) sum += what == 0 ? 1 : what == 1 ? s[2] : s[1];
        }
        return sum;
    }

    int differs() {
        int best = NONE;
        BigInteger upper = null;
        BigInteger lower = null;
        for (int t = 0; t < 3; t++) {
            BigInteger a = BigInteger.valueOf(streets(t, 1, 0));
            BigInteger b = BigInteger.valueOf(streets(t, 0, 0));
            BigInteger ha = BigInteger.valueOf(streets(t, 1, 1));
            BigInteger hb = BigInteger.valueOf(streets(t, 0, 1));
            if (a.signum() == 0 || b.signum() == 0) continue;
            BigInteger u = ha.multiply(b).subtract(hb.multiply(a)).abs();
            BigInteger l = a.multiply(b);
            if (best == NONE || u.multiply(lower).compareTo(upper.multiply(l)) > 0) {
                best = t;
                upper = u;
                lower = l;
            }
        }
        return best;
    }

    int window(int cries, int saw, int rang) {
        if (!in(cries, 0, 9) || !in(saw, 0, 1) || !in(rang, 0, 1)) return no(-1);
        if (k.windows.size() == 40) return no(-5);
        k.windows.add(new int[] {cries, saw, rang});
        return yes(k.windows.size() - 1);
    }

    int tale(int heard, int cries, int saw, int rang) {
        if (!in(heard, 0, 40) || !in(cries, 0, 9) || !in(saw, 0, 40) || !in(rang, 0, 40)) return NONE;
        long h = k.windows.stream().filter(w -> w[0] >= cries).count();
        long s = k.windows.stream().filter(w -> w[1] == 1).count();
        long r = k.windows.stream().filter(w -> w[2] == 1).count();
        return (h < heard ? 1 : 0) | (s != saw ? 2 : 0) | (r > rang ? 4 : 0);
    }

    int image(int n) {
        if (!in(n, 0, 1)) return no(-1);
        images[n] = k.copy();
        return yes(0);
    }

    int back(int n) {
        if (!in(n, 0, 1)) return no(-1);
        if (images[n] == null) return no(-2);
        k = images[n].copy();
        return yes(0);
    }

    int count(int what) {
        int[] all = {plan().many, k.laws.size(), k.trials.size(), k.streets.size(), k.windows.size(), tape.length(),
            refused[1], refused[2], refused[5], refused[6], k.use, k.force};
        return in(what, 0, 11) ? all[what] : NONE;
    }

    int status() {
        return status;
    }
}
