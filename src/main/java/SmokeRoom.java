import java.util.Arrays;

/** A waiting room with smoke under the door; the document numbers what each call promises. */
public final class SmokeRoom {
    public static final int NONE = -1;

    private static final int NOTHING = -10000000;
    private static final int MILLION = 1000000;

    private static final int PLANS = 6;
    private static final int PERSONS = 5;
    private static final int EVERYBODY = 31;
    private static final int GLANCES = 12;
    private static final int LAWS = 4;
    private static final int WORLDS = 100;
    private static final int TRIALS = 8;
    private static final int UNPRINTED = 4;
    private static final int ROWS = 40;
    private static final int THINGS = 3;
    private static final int CRIES = 9;
    private static final int BYTES = 400;
    private static final int ROW_BYTES = 48;
    private static final int IMAGES = 2;
    private static final int BIGGEST = 99;
    private static final int KINDS = 7;
    private static final int TRAIT_MOST = 9;
    private static final int FRIGHT_MOST = 891;
    private static final int WEIGHT_MOST = 100;
    private static final int MOVES = 11;

    private static final int STAYS = 1;
    private static final int GOES = 2;

    private static final int CANT_BE = -1;
    private static final int NO_SUCH = -2;
    private static final int NO_ROOM = -5;
    private static final int CANT_READ = -6;

    private final Room now = new Room();
    private final Room[] images = new Room[IMAGES];
    private final boolean[] kept = new boolean[IMAGES];
    private final int[] tape = new int[BYTES];
    private int taped = 0;
    private final Reader reader = new Reader();
    private int faultAt = NONE;
    private final World latest = new World();
    private final World passing = new World();
    private final int[] refusals = new int[4];
    private int latestRefusal = 0;
    private final Scales scales = new Scales();
    private final Reckoner reckoner = scales.reckoner;
    private final Scene scene = reckoner.scene;

    public SmokeRoom() {
        for (int k = 0; k < IMAGES; k++) {
            images[k] = new Room();
        }
        Arrays.fill(latest.wentAt, NONE);
    }

    // ---- promises 2 to 10: how the rooms are

    public int use(int plan) {
        if (!isPlan(plan)) {
            return refuse(CANT_BE);
        }
        int was = now.inUse;
        now.inUse = plan;
        return allow(was);
    }

    public int people(int many) {
        if (!within(many, 0, PERSONS)) {
            return refuse(CANT_BE);
        }
        Plan plan = planInUse();
        int was = plan.many;
        plan.many = many;
        return allow(was);
    }

    public int person(int person, int what, int value) {
        if (!isPerson(person) || !within(what, 0, 2) || !within(value, 0, what == 0 ? KINDS : TRAIT_MOST)) {
            return refuse(CANT_BE);
        }
        int was = now.trait[what][person];
        now.trait[what][person] = value;
        return allow(was);
    }

    public int paid(int person, int how, int glance) {
        if (!isPerson(person) || !within(how, 0, GOES) || !within(glance, 0, how == GOES ? GLANCES - 1 : 0)) {
            return refuse(CANT_BE);
        }
        Plan plan = planInUse();
        int was = plan.paidHow[person];
        plan.paidHow[person] = how;
        plan.paidFrom[person] = glance;
        return allow(was);
    }

    public int sees(int person, int what, int others) {
        if (!isPerson(person) || !within(what, 0, 1) || !within(others, 0, EVERYBODY)) {
            return refuse(CANT_BE);
        }
        Plan plan = planInUse();
        int[] masks = what == 0 ? plan.sees : plan.hears;
        int was = masks[person];
        masks[person] = others;
        return allow(was);
    }

    public int ask(int person, int glance) {
        if (!isPerson(person) || !within(glance, NONE, GLANCES - 1)) {
            return refuse(CANT_BE);
        }
        Plan plan = planInUse();
        int was = plan.askedFrom[person];
        plan.askedFrom[person] = glance;
        return allow(was);
    }

    public int friends(int one, int other, int are) {
        if (!isPerson(one) || !isPerson(other) || one == other || !within(are, 0, 1)) {
            return refuse(CANT_BE);
        }
        int was = now.friends[one] >> other & 1;
        now.friends[one] = withBit(now.friends[one], other, are);
        now.friends[other] = withBit(now.friends[other], one, are);
        return allow(was);
    }

    public int lasts(int glances) {
        if (!within(glances, 1, GLANCES)) {
            return refuse(CANT_BE);
        }
        int was = now.lasts;
        now.lasts = glances;
        return allow(was);
    }

    public int size(int glance, int size) {
        if (!within(glance, 0, GLANCES - 1) || !within(size, 0, BIGGEST)) {
            return refuse(CANT_BE);
        }
        int was = now.size[glance];
        now.size[glance] = size;
        return allow(was);
    }

    // ---- promises 11 to 17: the TAPE and the LAWS

    public int feed(int a, int b, int c, int d, int e) {
        if (taped > BYTES - 20) {
            return NONE;
        }
        tapeInt(a);
        tapeInt(b);
        tapeInt(c);
        tapeInt(d);
        tapeInt(e);
        return taped;
    }

    public int end(int n) {
        if (!within(n, 0, taped)) {
            return NONE;
        }
        taped = n;
        return n;
    }

    public int row() {
        int bytes = taped;
        taped = 0;
        if (!within(bytes, 1, ROW_BYTES)) {
            return refuse(CANT_READ);
        }
        int told = bytes / 4;
        for (int g = 0; g < told && g < GLANCES; g++) {
            int value = tapedInt(4 * g);
            now.size[g] = within(value, 0, BIGGEST) ? value : 0;
        }
        return allow(told);
    }

    public int law() {
        int bytes = taped;
        taped = 0;
        int number = now.lawMany;
        if (!within(number, 0, LAWS - 1)) {
            return refuse(NO_ROOM);
        }
        faultAt = reader.read(tape, bytes);
        if (faultAt != NONE) {
            return refuse(CANT_READ);
        }
        now.laws[number].become(reader.draft);
        now.weight[number] = 1;
        now.lawMany = number + 1;
        return allow(number);
    }

    public int fault() {
        return faultAt;
    }

    public int force(int law) {
        if (law != NONE && !isLaw(law)) {
            return refuse(NO_SUCH);
        }
        int was = now.force;
        now.force = law;
        return allow(was);
    }

    public int reasons(int law) {
        return isLaw(law) ? now.laws[law].holds() : NONE;
    }

    // ---- promises 18 to 21: CHANCES, exactly

    public int chance(int person, int glance, int stirs, int gone) {
        if (!isThere(person) || !within(glance, 0, GLANCES - 1)) {
            return NONE;
        }
        if (!within(stirs, 0, EVERYBODY) || !within(gone, 0, EVERYBODY)) {
            return NONE;
        }
        lookAround();
        return scene.chanceOf(person, glance, stirs & ~gone, gone & ~stirs);
    }

    public int odds(int person, int glances) {
        if (!canReckon(person, glances)) {
            return NONE;
        }
        lookAround();
        reckoner.reckon(person, glances);
        return reckoner.millionths();
    }

    public int digits(int person, int glances, int k) {
        if (!canReckon(person, glances) || !within(k, 0, Reckoner.LIMBS - 1)) {
            return NONE;
        }
        lookAround();
        reckoner.reckon(person, glances);
        return reckoner.told.limbAt(k);
    }

    public int alone(int person, int glances) {
        if (!canReckon(person, glances)) {
            return NONE;
        }
        lookAround();
        reckoner.reckonAlone(person, glances);
        return reckoner.millionths();
    }

    // ---- promises 22 to 27: what REASONS hold back, what moves a PLAN

    public int held(int plan, int reason) {
        if (!isPlan(plan) || !isReason(reason)) {
            return NOTHING;
        }
        return anyWithout(plan, reason) - anyOf(plan, now.force);
    }

    public int parts(int one, int other, int what) {
        return mostParted(one, other, FRIGHT_MOST, what);
    }

    public int gentle(int one, int other, int fright, int what) {
        return within(fright, 0, FRIGHT_MOST) ? mostParted(one, other, fright, what) : NONE;
    }

    public int fright(int plan) {
        return isPlan(plan) ? frightOf(plan) : NONE;
    }

    public int moved(int plan, int what) {
        if (!isPlan(plan) || !within(what, 0, MOVES - 1)) {
            return NOTHING;
        }
        return movedBy(plan, what);
    }

    public int span(int what, int most) {
        if (!within(what, 0, MOVES - 1) || !within(most, 0, 1)) {
            return NOTHING;
        }
        int best = NOTHING;
        for (int p = 0; p < PLANS; p++) {
            if (now.plans[p].many == 0) {
                continue;
            }
            int by = movedBy(p, what);
            if (best == NOTHING || (most == 1 ? by > best : by < best)) {
                best = by;
            }
        }
        return best;
    }

    // ---- promises 28 to 31: beside those alone, how soon, by whose words, how many

    public int crowd(int person, int glances) {
        if (!canReckon(person, glances)) {
            return NONE;
        }
        lookAround();
        reckoner.reckon(person, glances);
        reckoner.other.setBig(reckoner.told);
        reckoner.reckonAlone(person, glances);
        return reckoner.other.against(reckoner.told) + 1;
    }

    public int sooner(int person, int millionths) {
        if (!canReckon(person, 0) || !within(millionths, 0, MILLION)) {
            return NONE;
        }
        lookAround();
        reckoner.start(person);
        for (int t = 0; t <= now.lasts; t++) {
            reckoner.tell();
            if (reckoner.millionths() >= millionths) {
                return t;
            }
            reckoner.step();
        }
        return NONE;
    }

    public int words(int millionths) {
        if (!within(millionths, 0, MILLION)) {
            return NONE;
        }
        lookAround();
        Plan plan = planInUse();
        for (int fewest = 0; fewest <= plan.many; fewest++) {
            for (int bits = 0; bits < 1 << plan.many; bits++) {
                if (Integer.bitCount(bits) != fewest) {
                    continue;
                }
                scene.askAlso(plan, bits);
                reckoner.reckonAny(now.lasts);
                if (reckoner.millionths() >= millionths) {
                    return bits;
                }
            }
        }
        return NONE;
    }

    public int few() {
        lookAround();
        return reckoner.fewest(planInUse().many, now.lasts);
    }

    // ---- promises 32 to 34: WORLDS by DRAWS

    public int run(int seed) {
        if (!within(seed, 0, MILLION)) {
            return refuse(CANT_BE);
        }
        lookAround();
        latest.seed = seed;
        return allow(latest.play(scene, now.lasts));
    }

    public int went(int person) {
        return isPerson(person) ? latest.wentAt[person] : NONE;
    }

    public int worlds(int n, int seed) {
        if (!within(n, 1, WORLDS) || !within(seed, 0, MILLION)) {
            return NONE;
        }
        lookAround();
        passing.seed = seed;
        int any = 0;
        for (int k = 0; k < n; k++) {
            if (passing.play(scene, now.lasts) != 0) {
                any++;
            }
        }
        return any;
    }

    // ---- promises 35 to 39: TRIALS that weigh LAWS

    public int trial(int plan, int any) {
        if (!isPlan(plan) || !within(any, 0, 1)) {
            return refuse(CANT_BE);
        }
        return noteDown(now.trials, plan, any, 0);
    }

    public int weigh(int law, int weight) {
        if (!within(weight, 0, WEIGHT_MOST)) {
            return refuse(CANT_BE);
        }
        if (!isLaw(law)) {
            return refuse(NO_SUCH);
        }
        int was = now.weight[law];
        now.weight[law] = weight;
        return allow(was);
    }

    public int likely(int law) {
        if (!isLaw(law)) {
            return NONE;
        }
        scales.load(now);
        return scales.share(law);
    }

    public int printed(int law, int plan, int many, int most) {
        if (!isLaw(law) || !isPlan(plan) || !within(many, 0, UNPRINTED) || !within(most, 0, 1)) {
            return NONE;
        }
        scales.load(now);
        scales.loadUnprinted(now, plan);
        int best = NONE;
        for (int any = 0; any <= many; any++) {
            scales.suppose(any, many - any);
            int share = scales.share(law);
            if (best == NONE || (most == 1 ? share > best : share < best)) {
                best = share;
            }
        }
        return best;
    }

    public int next(int law, int other, int what) {
        if (!isLaw(law) || !isLaw(other) || !within(what, 0, 1)) {
            return NONE;
        }
        int best = NONE;
        int most = NONE;
        for (int p = 0; p < PLANS; p++) {
            if (now.plans[p].many == 0) {
                continue;
            }
            int apart = Math.abs(anyOf(p, law) - anyOf(p, other));
            if (apart > most) {
                most = apart;
                best = p;
            }
        }
        return what == 0 ? best : most;
    }

    // ---- promises 40 to 44: STREETS, WINDOWS, TALES

    public int street(int things, int many, int helped) {
        if (!within(things, 0, (1 << THINGS) - 1) || !within(many, 1, BIGGEST) || !within(helped, 0, 1)) {
            return refuse(CANT_BE);
        }
        return noteDown(now.streets, things, many, helped);
    }

    public int streets(int thing, int with, int what) {
        if (!within(thing, 0, THINGS - 1) || !within(with, 0, 1) || !within(what, 0, 2)) {
            return NONE;
        }
        return streetsBy(thing, with, what);
    }

    public int differs() {
        int best = NONE;
        int upper = 0;
        int lower = 1;
        for (int thing = 0; thing < THINGS; thing++) {
            int with = streetsBy(thing, 1, 0);
            int without = streetsBy(thing, 0, 0);
            int apart = Math.abs(streetsBy(thing, 1, 1) * without - streetsBy(thing, 0, 1) * with);
            int whole = with * without;
            if (whole != 0 && (best == NONE || apart * lower > upper * whole)) {
                best = thing;
                upper = apart;
                lower = whole;
            }
        }
        return best;
    }

    public int window(int cries, int saw, int rang) {
        if (!within(cries, 0, CRIES) || !within(saw, 0, 1) || !within(rang, 0, 1)) {
            return refuse(CANT_BE);
        }
        return noteDown(now.windows, cries, saw, rang);
    }

    public int tale(int heard, int cries, int saw, int rang) {
        if (!within(heard, 0, ROWS) || !within(cries, 0, CRIES) || !within(saw, 0, ROWS) || !within(rang, 0, ROWS)) {
            return NONE;
        }
        Rows windows = now.windows;
        int heardSo = 0;
        int sawSo = 0;
        int rangSo = 0;
        for (int w = 0; w < windows.many && w < ROWS; w++) {
            heardSo += windows.first[w] >= cries ? 1 : 0;
            sawSo += windows.second[w];
            rangSo += windows.third[w];
        }
        return (heardSo < heard ? 1 : 0) + (sawSo != saw ? 2 : 0) + (rangSo > rang ? 4 : 0);
    }

    // ---- promises 45 to 48: IMAGES and what stands

    public int image(int k) {
        if (!within(k, 0, IMAGES - 1)) {
            return refuse(CANT_BE);
        }
        images[k].become(now);
        kept[k] = true;
        return allow(0);
    }

    public int back(int k) {
        if (!within(k, 0, IMAGES - 1)) {
            return refuse(CANT_BE);
        }
        if (!kept[k]) {
            return refuse(NO_SUCH);
        }
        now.become(images[k]);
        return allow(0);
    }

    public int count(int what) {
        switch (what) {
            case 0:
                return planInUse().many;
            case 1:
                return now.lawMany;
            case 2:
                return now.trials.many;
            case 3:
                return now.streets.many;
            case 4:
                return now.windows.many;
            case 5:
                return taped;
            case 6:
            case 7:
            case 8:
            case 9:
                return refusals[what - 6];
            case 10:
                return now.inUse;
            case 11:
                return now.force;
            default:
                return NONE;
        }
    }

    public int status() {
        return latestRefusal;
    }

    // ---- what the calls share

    private int refuse(int by) {
        latestRefusal = by;
        refusals[by == CANT_BE ? 0 : by == NO_SUCH ? 1 : by == NO_ROOM ? 2 : 3]++;
        return by;
    }

    private int allow(int answer) {
        latestRefusal = 0;
        return answer;
    }

    private int noteDown(Rows rows, int first, int second, int third) {
        int number = rows.put(first, second, third);
        return number == NONE ? refuse(NO_ROOM) : allow(number);
    }

    private static boolean within(int value, int least, int most) {
        return value >= least && value <= most;
    }

    private static boolean isPlan(int plan) {
        return plan >= 0 && plan < PLANS;
    }

    private static boolean isPerson(int person) {
        return person >= 0 && person < PERSONS;
    }

    private static int withBit(int mask, int bit, int set) {
        return set == 1 ? mask | 1 << bit : mask & ~(1 << bit);
    }

    private Plan planInUse() {
        return now.plans[isPlan(now.inUse) ? now.inUse : 0];
    }

    private boolean isLaw(int law) {
        return law >= 0 && law < now.lawMany && law < LAWS;
    }

    private boolean isThere(int person) {
        return isPerson(person) && person < planInUse().many;
    }

    private boolean isReason(int reason) {
        return reason >= 0 && isLaw(now.force) && reason < now.laws[now.force].holds();
    }

    private boolean canReckon(int person, int glances) {
        return (person == NONE || isThere(person)) && within(glances, 0, now.lasts);
    }

    private void tapeInt(int value) {
        for (int shift = 24; shift >= 0 && taped < BYTES; shift -= 8) {
            tape[taped] = value >> shift & 255;
            taped++;
        }
    }

    private int tapedInt(int from) {
        int value = 0;
        for (int i = from; i < from + 4 && i < BYTES; i++) {
            value = value << 8 | tape[i];
        }
        return value;
    }

    private void lookAround() {
        scene.take(now, now.inUse, now.force);
    }

    private int anyOf(int plan, int law) {
        scene.take(now, plan, law);
        reckoner.reckonAny(now.lasts);
        return reckoner.millionths();
    }

    private int anyWithout(int plan, int reason) {
        scene.take(now, plan, now.force);
        scene.without = reason;
        reckoner.reckonAny(now.lasts);
        return reckoner.millionths();
    }

    private int movedBy(int plan, int what) {
        int was = anyOf(plan, now.force);
        scene.alter(what);
        reckoner.reckonAny(now.lasts);
        return reckoner.millionths() - was;
    }

    private int frightOf(int plan) {
        int afraid = 0;
        for (int p = 0; p < now.plans[plan].many && p < PERSONS; p++) {
            afraid = Math.max(afraid, now.trait[1][p]);
        }
        int size = 0;
        for (int g = 0; g < now.lasts && g < GLANCES; g++) {
            size = Math.max(size, now.size[g]);
        }
        return afraid * size;
    }

    private int mostParted(int one, int other, int fright, int what) {
        if (!isReason(one) || !isReason(other) || !within(what, 0, 1)) {
            return NONE;
        }
        int best = NONE;
        int most = NONE;
        for (int p = 0; p < PLANS; p++) {
            if (now.plans[p].many == 0 || frightOf(p) > fright) {
                continue;
            }
            // What both are held against is the same, so it falls out of how far they are apart.
            int apart = Math.abs(anyWithout(p, one) - anyWithout(p, other));
            if (apart > most) {
                most = apart;
                best = p;
            }
        }
        return what == 0 ? best : most;
    }

    private int streetsBy(int thing, int with, int what) {
        Rows streets = now.streets;
        int sum = 0;
        for (int s = 0; s < streets.many && s < ROWS; s++) {
            if ((streets.first[s] >> thing & 1) == with) {
                sum += what == 0 ? 1 : what == 1 ? streets.third[s] : streets.second[s];
            }
        }
        return sum;
    }

    /** Rows of three numbers, kept in the order in which they came. */
    private static final class Rows {
        private int many = 0;
        private final int room;
        private final int[] first;
        private final int[] second;
        private final int[] third;

        private Rows(int room) {
            this.room = Math.max(0, room);
            first = new int[this.room];
            second = new int[this.room];
            third = new int[this.room];
        }

        private int put(int one, int two, int three) {
            if (many < 0 || many >= room) {
                return NONE;
            }
            first[many] = one;
            second[many] = two;
            third[many] = three;
            many++;
            return many - 1;
        }

        private void become(Rows other) {
            many = other.many;
            for (int i = 0; i < room && i < other.room; i++) {
                first[i] = other.first[i];
                second[i] = other.second[i];
                third[i] = other.third[i];
            }
        }
    }

    /** What the PERSONS of one PLAN are paid for, asked, see and hear. */
    private static final class Plan {
        private int many = 0;
        private final int[] paidHow = new int[PERSONS];
        private final int[] paidFrom = new int[PERSONS];
        private final int[] sees = new int[PERSONS];
        private final int[] hears = new int[PERSONS];
        private final int[] askedFrom = new int[PERSONS];

        private Plan() {
            Arrays.fill(sees, EVERYBODY);
            Arrays.fill(hears, EVERYBODY);
            Arrays.fill(askedFrom, NONE);
        }

        private void become(Plan other) {
            many = other.many;
            for (int p = 0; p < PERSONS; p++) {
                paidHow[p] = other.paidHow[p];
                paidFrom[p] = other.paidFrom[p];
                sees[p] = other.sees[p];
                hears[p] = other.hears[p];
                askedFrom[p] = other.askedFrom[p];
            }
        }
    }

    /** All that an IMAGE keeps. */
    private static final class Room {
        private int inUse = 0;
        private final Plan[] plans = new Plan[PLANS];
        private final int[][] trait = new int[3][PERSONS];
        private final int[] friends = new int[PERSONS];
        private int lasts = 6;
        private final int[] size = new int[GLANCES];
        private final Law[] laws = new Law[LAWS];
        private int lawMany = 0;
        private final int[] weight = new int[LAWS];
        private int force = NONE;
        private final Rows trials = new Rows(TRIALS);
        private final Rows streets = new Rows(ROWS);
        private final Rows windows = new Rows(ROWS);

        private Room() {
            for (int p = 0; p < PLANS; p++) {
                plans[p] = new Plan();
            }
            for (int n = 0; n < LAWS; n++) {
                laws[n] = new Law();
            }
            for (int g = 0; g < GLANCES; g++) {
                size[g] = Math.min(BIGGEST, 10 * g + 10);
            }
        }

        private void become(Room other) {
            inUse = other.inUse;
            lasts = other.lasts;
            lawMany = other.lawMany;
            force = other.force;
            for (int p = 0; p < PLANS; p++) {
                plans[p].become(other.plans[p]);
            }
            for (int p = 0; p < PERSONS; p++) {
                trait[0][p] = other.trait[0][p];
                trait[1][p] = other.trait[1][p];
                trait[2][p] = other.trait[2][p];
                friends[p] = other.friends[p];
            }
            for (int g = 0; g < GLANCES; g++) {
                size[g] = other.size[g];
            }
            for (int n = 0; n < lawMany && n < LAWS; n++) {
                laws[n].become(other.laws[n]);
                weight[n] = other.weight[n];
            }
            trials.become(other.trials);
            streets.become(other.streets);
            windows.become(other.windows);
        }
    }

    /** A LAW as steps for a stack: of each CLAUSE first those of its SUM, then those of its TEST. */
    private static final class Law {
        private static final int CLAUSES = 12;
        private static final int NUMBER = 0;
        private static final int WORD = 1;
        private static final int PLUS = 2;
        private static final int MINUS = 3;
        private static final int TIMES = 4;
        private static final int THROUGH = 5;
        private static final int BELOW = 6;
        private static final int ABOVE = 7;
        private static final int SAME = 8;
        private static final int NOT = 9;
        private static final int OR = 10;
        private static final int AND = 11;

        private int clauses = 0;
        private final boolean[] goes = new boolean[CLAUSES];
        private final int[] sumFrom = new int[CLAUSES];
        private final int[] testFrom = new int[CLAUSES];
        private final int[] testTo = new int[CLAUSES];
        private int steps = 0;
        // No step without a byte of its own in the TEXT, so BYTES are enough.
        private final int[] kind = new int[BYTES];
        private final int[] about = new int[BYTES];

        private void clear() {
            clauses = 0;
            steps = 0;
        }

        private int holds() {
            int many = 0;
            for (int c = 0; c < clauses && c < CLAUSES; c++) {
                many += goes[c] ? 0 : 1;
            }
            return many;
        }

        private void put(int stepKind, int stepAbout) {
            if (steps < 0 || steps >= BYTES) {
                return;
            }
            kind[steps] = stepKind;
            about[steps] = stepAbout;
            steps++;
        }

        private void aim(int step) {
            if (step >= 0 && step < BYTES) {
                about[step] = steps;
            }
        }

        private void become(Law other) {
            clauses = other.clauses;
            steps = other.steps;
            for (int c = 0; c < clauses && c < CLAUSES; c++) {
                goes[c] = other.goes[c];
                sumFrom[c] = other.sumFrom[c];
                testFrom[c] = other.testFrom[c];
                testTo[c] = other.testTo[c];
            }
            for (int s = 0; s < steps && s < BYTES; s++) {
                kind[s] = other.kind[s];
                about[s] = other.about[s];
            }
        }
    }

    /** Reads a TEXT into a LAW, or tells where it can't go on. */
    private static final class Reader {
        private static final int PARTS = 50;
        private static final int BRACKETS = 8;
        private static final int NUMBER_MOST = 1000;
        private static final int AT_END = 0;
        private static final int LETTERS = 1;
        private static final int FIGURES = 2;
        private static final int SIGN = 3;

        private final int[] text = new int[BYTES];
        private int length = 0;
        private int from = 0;
        private int to = 0;
        private int sort = AT_END;
        private int parts = 0;
        private final Law draft = new Law();

        /** FAULT, or NONE: then the draft is the LAW. */
        private int read(int[] bytes, int many) {
            length = Math.max(0, Math.min(BYTES, many));
            for (int i = 0; i < length && i < bytes.length; i++) {
                text[i] = bytes[i];
            }
            to = 0;
            parts = 0;
            draft.clear();
            advance();
            for (int c = 0; c < Law.CLAUSES; c++) {
                if (!readClause(c)) {
                    return from;
                }
                if (sort == AT_END) {
                    return NONE;
                }
                if (!isSign(';')) {
                    return from;
                }
                advance();
            }
            return from;
        }

        private void advance() {
            from = to;
            while (from < length && text[from] == ' ') {
                from++;
            }
            sort = sortAt(from);
            to = sort == AT_END ? from : from + 1;
            while (sort != SIGN && to < length && sortAt(to) == sort) {
                to++;
            }
        }

        private int sortAt(int place) {
            if (place < 0 || place >= length || place >= BYTES) {
                return AT_END;
            }
            int sign = text[place];
            if (sign >= 'a' && sign <= 'z') {
                return LETTERS;
            }
            return sign >= '0' && sign <= '9' ? FIGURES : SIGN;
        }

        private boolean isWord(String word) {
            if (sort != LETTERS || to - from != word.length()) {
                return false;
            }
            for (int i = 0; i < word.length() && from + i < BYTES; i++) {
                if (text[from + i] != word.charAt(i)) {
                    return false;
                }
            }
            return true;
        }

        private boolean isSign(char sign) {
            return sort == SIGN && from >= 0 && from < BYTES && text[from] == sign;
        }

        private boolean readClause(int c) {
            boolean goes = isWord("go");
            if (!goes && !isWord("hold")) {
                return false;
            }
            advance();
            draft.goes[c] = goes;
            draft.sumFrom[c] = draft.steps;
            if (!readSum(0)) {
                return false;
            }
            draft.testFrom[c] = draft.steps;
            if (isWord("if")) {
                advance();
                if (!readTest(0)) {
                    return false;
                }
            }
            draft.testTo[c] = draft.steps;
            draft.clauses = c + 1;
            return true;
        }

        private boolean readTest(int depth) {
            boolean well = readBoth(depth);
            for (int i = 0; i < BYTES && well && isWord("or"); i++) {
                int step = draft.steps;
                draft.put(Law.OR, 0);
                advance();
                well = readBoth(depth);
                draft.aim(step);
            }
            return well;
        }

        private boolean readBoth(int depth) {
            boolean well = readPlain(depth);
            for (int i = 0; i < BYTES && well && isWord("and"); i++) {
                int step = draft.steps;
                draft.put(Law.AND, 0);
                advance();
                well = readPlain(depth);
                draft.aim(step);
            }
            return well;
        }

        private boolean readPlain(int depth) {
            boolean turned = false;
            for (int i = 0; i < BYTES && isWord("not"); i++) {
                turned = !turned;
                advance();
            }
            if (isSign('(')) {
                if (!readBracketedTest(depth)) {
                    return false;
                }
            } else {
                if (!readSum(depth)) {
                    return false;
                }
                int kind = isSign('<') ? Law.BELOW : isSign('>') ? Law.ABOVE : isSign('=') ? Law.SAME : NONE;
                if (kind == NONE) {
                    return false;
                }
                advance();
                if (!readSum(depth)) {
                    return false;
                }
                draft.put(kind, 0);
            }
            if (turned) {
                draft.put(Law.NOT, 0);
            }
            return true;
        }

        private boolean readBracketedTest(int depth) {
            if (depth >= BRACKETS) {
                return false;
            }
            advance();
            if (!readTest(depth + 1) || !isSign(')')) {
                return false;
            }
            advance();
            return true;
        }

        private boolean readSum(int depth) {
            boolean well = readTerm(depth);
            for (int i = 0; i < BYTES && well && (isSign('+') || isSign('-')); i++) {
                int kind = isSign('+') ? Law.PLUS : Law.MINUS;
                advance();
                well = readTerm(depth);
                draft.put(kind, 0);
            }
            return well;
        }

        private boolean readTerm(int depth) {
            boolean well = readPart(depth);
            for (int i = 0; i < BYTES && well && (isSign('*') || isSign('/')); i++) {
                int kind = isSign('*') ? Law.TIMES : Law.THROUGH;
                advance();
                well = readPart(depth);
                draft.put(kind, 0);
            }
            return well;
        }

        private boolean readPart(int depth) {
            if (isSign('[')) {
                return readBracketedSum(depth);
            }
            int number = numberHere();
            int word = wordHere();
            if (number == NONE && word == NONE || parts >= PARTS) {
                return false;
            }
            parts++;
            draft.put(number == NONE ? Law.WORD : Law.NUMBER, number == NONE ? word : number);
            advance();
            return true;
        }

        private boolean readBracketedSum(int depth) {
            if (depth >= BRACKETS) {
                return false;
            }
            advance();
            if (!readSum(depth + 1) || !isSign(']')) {
                return false;
            }
            advance();
            return true;
        }

        private int numberHere() {
            if (sort != FIGURES) {
                return NONE;
            }
            int value = 0;
            for (int i = from; i < to && i < BYTES; i++) {
                value = Math.min(10 * value + text[i] - '0', NUMBER_MOST + 1);
            }
            return value <= NUMBER_MOST ? value : NONE;
        }

        private int wordHere() {
            return isWord("size") ? Scene.SIZE
                : isWord("still") ? Scene.STILL
                : isWord("stirs") ? Scene.STIRS
                : isWord("gone") ? Scene.GONE
                : isWord("heard") ? Scene.HEARD
                : isWord("friends") ? Scene.FRIENDS
                : isWord("glance") ? Scene.GLANCE
                : isWord("kind") ? Scene.KIND
                : isWord("afraid") ? Scene.AFRAID
                : isWord("skill") ? Scene.SKILL
                : isWord("asked") ? Scene.ASKED
                : isWord("alone") ? Scene.ALONE
                : NONE;
        }
    }

    /** The PERSONS of a PLAN under a LAW, as they are or as they are supposed to be. */
    private static final class Scene {
        private static final int SIZE = 0;
        private static final int STILL = 1;
        private static final int STIRS = 2;
        private static final int GONE = 3;
        private static final int HEARD = 4;
        private static final int FRIENDS = 5;
        private static final int GLANCE = 6;
        private static final int KIND = 7;
        private static final int AFRAID = 8;
        private static final int SKILL = 9;
        private static final int ASKED = 10;
        private static final int ALONE = 11;
        private static final int FACTS = 12;
        private static final int NONE_SEES = 8;
        private static final int NONE_HEARS = 10;
        private static final int STACK = 64;
        private static final long BEYOND = 1000000000L;
        private static final long BROKEN = 2000000000L;

        private final Plan plan = new Plan();
        private final int[][] trait = new int[3][PERSONS];
        private final int[] friends = new int[PERSONS];
        private final int[] size = new int[GLANCES];
        private Law law = null;
        private int without = NONE;
        private final int[] facts = new int[FACTS];
        private final long[] stack = new long[STACK];

        private void take(Room room, int planNumber, int lawNumber) {
            plan.become(room.plans[isPlan(planNumber) ? planNumber : 0]);
            for (int p = 0; p < PERSONS; p++) {
                trait[0][p] = room.trait[0][p];
                trait[1][p] = room.trait[1][p];
                trait[2][p] = room.trait[2][p];
                friends[p] = room.friends[p];
            }
            for (int g = 0; g < GLANCES; g++) {
                size[g] = room.size[g];
            }
            law = lawNumber >= 0 && lawNumber < LAWS ? room.laws[lawNumber] : null;
            without = NONE;
        }

        /** By the numbers of promise 26. */
        private void alter(int what) {
            switch (what) {
                case 0:
                case 1:
                    Arrays.fill(friends, what == 0 ? EVERYBODY : 0);
                    break;
                case 2:
                case 3:
                    Arrays.fill(plan.askedFrom, what == 2 ? 0 : NONE);
                    break;
                case 4:
                    Arrays.fill(plan.paidHow, 0);
                    break;
                case 5:
                case 6:
                    Arrays.fill(size, what == 5 ? BIGGEST : 0);
                    break;
                case 7:
                case NONE_SEES:
                    Arrays.fill(plan.sees, what == 7 ? EVERYBODY : 0);
                    break;
                case 9:
                case NONE_HEARS:
                    Arrays.fill(plan.hears, what == 9 ? EVERYBODY : 0);
                    break;
                default:
                    break;
            }
        }

        private void askAlso(Plan asItIs, int bits) {
            for (int p = 0; p < PERSONS; p++) {
                plan.askedFrom[p] = (bits >> p & 1) == 1 ? 0 : asItIs.askedFrom[p];
            }
        }

        /** CHANCE of one who sits; nobody is in both of the sets. */
        private int chanceOf(int person, int glance, int stirs, int gone) {
            if (!isPerson(person) || glance < 0 || glance >= GLANCES || plan.paidHow[person] == STAYS) {
                return 0;
            }
            if (plan.paidHow[person] == GOES) {
                return glance >= plan.paidFrom[person] ? 100 : 0;
            }
            if (law == null) {
                return 0;
            }
            gather(person, glance, stirs, gone);
            long goes = 0;
            long holds = 0;
            int reason = 0;
            for (int c = 0; c < law.clauses && c < Law.CLAUSES; c++) {
                boolean leftOut = !law.goes[c] && reason == without;
                reason += law.goes[c] ? 0 : 1;
                boolean tested = law.testFrom[c] < law.testTo[c];
                if (leftOut || tested && valueOf(law, law.testFrom[c], law.testTo[c]) != 1) {
                    continue;
                }
                long told = valueOf(law, law.sumFrom[c], law.testFrom[c]);
                if (told == BROKEN) {
                    continue;
                }
                if (law.goes[c]) {
                    goes = told;
                } else {
                    holds += Math.max(0, told);
                }
            }
            return (int) Math.max(0, Math.min(100, goes - holds));
        }

        private void gather(int person, int glance, int stirs, int gone) {
            int others = (1 << plan.many) - 1 & ~(1 << person);
            int seen = plan.sees[person] & others;
            facts[SIZE] = size[glance];
            facts[STILL] = Integer.bitCount(seen & ~(stirs | gone));
            facts[STIRS] = Integer.bitCount(seen & stirs);
            facts[GONE] = Integer.bitCount(seen & gone);
            facts[HEARD] = Integer.bitCount(plan.hears[person] & others & stirs);
            facts[FRIENDS] = Integer.bitCount(seen & friends[person] & (stirs | gone));
            facts[GLANCE] = glance;
            facts[KIND] = trait[0][person];
            facts[AFRAID] = trait[1][person];
            facts[SKILL] = trait[2][person];
            facts[ASKED] = plan.askedFrom[person] != NONE && plan.askedFrom[person] <= glance ? 1 : 0;
            facts[ALONE] = seen == 0 ? 1 : 0;
        }

        /** BROKEN as soon as anything that is asked is: it breaks all that it stands in. */
        private long valueOf(Law by, int from, int to) {
            int top = 0;
            for (int s = Math.max(0, from); s < to && s < BYTES; s++) {
                int kind = by.kind[s];
                int about = by.about[s];
                if (kind <= Law.WORD) {
                    if (top >= STACK) {
                        return BROKEN;
                    }
                    stack[top] = kind == Law.WORD && about >= 0 && about < FACTS ? facts[about] : about;
                    top++;
                } else if (kind >= Law.NOT) {
                    if (top < 1) {
                        return BROKEN;
                    }
                    if (kind == Law.NOT) {
                        stack[top - 1] = 1 - stack[top - 1];
                    } else if (stack[top - 1] == (kind == Law.OR ? 1 : 0)) {
                        s = Math.max(s, about - 1);
                    } else {
                        top--;
                    }
                } else {
                    if (top < 2) {
                        return BROKEN;
                    }
                    top--;
                    stack[top - 1] = joined(kind, stack[top - 1], stack[top]);
                    if (stack[top - 1] == BROKEN) {
                        return BROKEN;
                    }
                }
            }
            return top == 1 ? stack[0] : BROKEN;
        }

        private static long joined(int kind, long left, long right) {
            long value;
            switch (kind) {
                case Law.PLUS:
                    value = left + right;
                    break;
                case Law.MINUS:
                    value = left - right;
                    break;
                case Law.TIMES:
                    value = left * right;
                    break;
                case Law.THROUGH:
                    value = right == 0 ? BROKEN : left / right;
                    break;
                case Law.BELOW:
                    return left < right ? 1 : 0;
                case Law.ABOVE:
                    return left > right ? 1 : 0;
                default:
                    return left == right ? 1 : 0;
            }
            return value > BEYOND || value < -BEYOND ? BROKEN : value;
        }
    }

    /** One WORLD after another by DRAWS from the same SEED on. */
    private static final class World {
        private int seed = 0;
        private final int[] wentAt = new int[PERSONS];

        private int play(Scene scene, int glances) {
            Arrays.fill(wentAt, NONE);
            int stirs = 0;
            int gone = 0;
            for (int g = 0; g < glances && g < GLANCES; g++) {
                int goes = 0;
                for (int p = 0; p < scene.plan.many && p < PERSONS; p++) {
                    if (((stirs | gone) >> p & 1) == 1) {
                        continue;
                    }
                    seed = (int) ((seed * 1103L + 12345) % 1000003);
                    if (seed % 100 < scene.chanceOf(p, g, stirs, gone)) {
                        goes |= 1 << p;
                        wentAt[p] = g;
                    }
                }
                gone |= stirs;
                stirs = goes;
            }
            return stirs | gone;
        }
    }

    /** A whole number of 0 or more, nine digits a limb, the lowest first. */
    private static final class Big {
        private static final int BASE = 1000000000;
        private static final int[] TENS = {1, 10, 100, 1000, 10000, 100000, 1000000, 10000000, 100000000};

        private final int room;
        private final int[] limb;
        // Limbs from here on are 0, the one below is not.
        private int used = 0;

        private Big(int room) {
            this.room = Math.max(1, room);
            limb = new int[this.room];
        }

        private void setZero() {
            for (int i = 0; i < used && i < room; i++) {
                limb[i] = 0;
            }
            used = 0;
        }

        private void setSmall(int value) {
            setZero();
            limb[0] = value;
            used = value == 0 ? 0 : 1;
        }

        private void setTen(int power) {
            setZero();
            int place = power / 9;
            if (power >= 0 && place < room) {
                limb[place] = TENS[power % 9];
                used = place + 1;
            }
        }

        private void setBig(Big other) {
            setZero();
            for (int i = 0; i < other.used && i < other.room && i < room; i++) {
                limb[i] = other.limb[i];
            }
            used = Math.min(room, other.used);
        }

        /** The factor is at most 100,000,000 here and below, so that a long holds every step. */
        private void timesSmall(int factor) {
            long carry = 0;
            for (int i = 0; i < used && i < room; i++) {
                carry += (long) limb[i] * factor;
                limb[i] = (int) (carry % BASE);
                carry /= BASE;
            }
            if (carry != 0 && used < room) {
                limb[used] = (int) carry;
                used++;
            }
            settleUsed(used);
        }

        private void addTimes(Big other, int factor) {
            long carry = 0;
            int top = Math.max(used, other.used);
            for (int i = 0; i < room && (i < top || carry != 0); i++) {
                long added = i < other.used && i < other.room ? (long) other.limb[i] * factor : 0;
                carry += limb[i] + added;
                limb[i] = (int) (carry % BASE);
                carry /= BASE;
                top = Math.max(top, i + 1);
            }
            settleUsed(top);
        }

        private void setProduct(Big one, Big two) {
            setZero();
            for (int i = 0; i < one.used && i < one.room; i++) {
                long carry = 0;
                for (int j = 0; j < room && i + j < room && (j < two.used || carry != 0); j++) {
                    long right = j < two.used && j < two.room ? two.limb[j] : 0;
                    carry += limb[i + j] + one.limb[i] * right;
                    limb[i + j] = (int) (carry % BASE);
                    carry /= BASE;
                }
            }
            settleUsed(one.used + two.used);
        }

        /** The upper one is not the smaller one. */
        private void setDifference(Big upper, Big lower) {
            setZero();
            int borrow = 0;
            for (int i = 0; i < upper.used && i < upper.room && i < room; i++) {
                int left = upper.limb[i] - borrow - lower.limbAt(i);
                borrow = left < 0 ? 1 : 0;
                limb[i] = left < 0 ? left + BASE : left;
            }
            settleUsed(upper.used);
        }

        private void settleUsed(int atMost) {
            used = Math.max(0, Math.min(room, atMost));
            while (used > 0 && limb[used - 1] == 0) {
                used--;
            }
        }

        /** -1 less, 0 the same, 1 more. */
        private int against(Big other) {
            if (used != other.used) {
                return used < other.used ? -1 : 1;
            }
            for (int i = used - 1; i >= 0 && i < room && i < other.room; i--) {
                if (limb[i] != other.limb[i]) {
                    return limb[i] < other.limb[i] ? -1 : 1;
                }
            }
            return 0;
        }

        private int limbAt(int place) {
            return place >= 0 && place < used && place < room ? limb[place] : 0;
        }

        /** At most nine digits, those that stand for 10 to the power of from and on. */
        private int figures(int from, int many) {
            int value = 0;
            for (int i = from + many - 1; i >= from && i >= 0; i--) {
                value = 10 * value + limbAt(i / 9) / TENS[i % 9] % 10;
            }
            return value;
        }
    }

    /** Exact chances: 100 times itself, once for each PERSON and GLANCE, is the number below. */
    private static final class Reckoner {
        private static final int LIMBS = 15;
        private static final int STATES = 243;
        // By a set of PERSONS, the sum of 3 to the power of each: STIR once it, GONE twice it.
        private static final int[] THREES = {
            0, 1, 3, 4, 9, 10, 12, 13, 27, 28, 30, 31, 36, 37, 39, 40,
            81, 82, 84, 85, 90, 91, 93, 94, 108, 109, 111, 112, 117, 118, 120, 121};

        private final Scene scene = new Scene();
        private int who = NONE;
        private int glance = 0;
        private int persons = 0;
        // How one who still sits can be among the others, at this GLANCE and at the next by turns.
        private final Big[] now = new Big[STATES];
        private final Big[] then = new Big[STATES];
        private boolean turned = false;
        private final int[] chances = new int[PERSONS];
        private final Big scaled = new Big(LIMBS);
        private final Big whole = new Big(LIMBS);
        private final Big stayed = new Big(LIMBS);
        private final Big told = new Big(LIMBS);
        private final Big other = new Big(LIMBS);

        private Reckoner() {
            for (int s = 0; s < STATES; s++) {
                now[s] = new Big(LIMBS);
                then[s] = new Big(LIMBS);
            }
        }

        /** ANY (NONE) or EACH within so many GLANCES: told; stayed: that it is not so. */
        private void reckon(int person, int glances) {
            start(person);
            for (int g = 0; g < glances && g < GLANCES; g++) {
                step();
            }
            tell();
        }

        private void reckonAny(int glances) {
            start(NONE);
            for (int g = 0; g < glances && g < GLANCES; g++) {
                stepTogether();
            }
            tell();
        }

        private void start(int person) {
            who = person;
            glance = 0;
            persons = scene.plan.many;
            stayed.setSmall(1);
            if (person != NONE) {
                Big[] first = turned ? then : now;
                clearStates(first);
                first[0].setSmall(1);
            }
        }

        private void step() {
            if (who == NONE) {
                stepTogether();
            } else {
                stepBeside(turned ? then : now, turned ? now : then);
            }
        }

        private void tell() {
            if (who != NONE) {
                Big[] states = turned ? then : now;
                stayed.setZero();
                for (int s = 0; s < STATES; s++) {
                    if (states[s].used != 0) {
                        stayed.addTimes(states[s], 1);
                    }
                }
            }
            whole.setTen(2 * persons * glance);
            told.setDifference(whole, stayed);
        }

        private int millionths() {
            int places = 2 * persons * glance;
            if (places >= 6) {
                return told.figures(places - 6, 7);
            }
            int value = told.figures(0, 7);
            for (int i = places; i < 6; i++) {
                value *= 10;
            }
            return value;
        }

        private static void clearStates(Big[] states) {
            for (int s = 0; s < STATES && s < states.length; s++) {
                states[s].setZero();
            }
        }

        /** That nobody went yet is one way alone, so ANY needs no other. */
        private void stepTogether() {
            for (int p = 0; p < persons && p < PERSONS; p++) {
                stayed.timesSmall(100 - scene.chanceOf(p, glance, 0, 0));
            }
            glance++;
        }

        private void stepBeside(Big[] from, Big[] to) {
            clearStates(to);
            int sets = 1 << Math.min(PERSONS, persons);
            for (int stirs = 0; stirs < sets; stirs++) {
                for (int gone = 0; gone < sets; gone++) {
                    int state = THREES[stirs] + 2 * THREES[gone];
                    if ((stirs & gone) == 0 && state < STATES && from[state].used != 0) {
                        spread(from[state], stirs, gone, to);
                    }
                }
            }
            turned = !turned;
            glance++;
        }

        private void spread(Big ways, int stirs, int gone, Big[] to) {
            int sits = 0;
            for (int p = 0; p < persons && p < PERSONS; p++) {
                if (((stirs | gone) >> p & 1) == 0) {
                    chances[p] = scene.chanceOf(p, glance, stirs, gone);
                    sits |= p == who ? 0 : 1 << p;
                }
            }
            scaled.setBig(ways);
            scaled.timesSmall(100 - (isPerson(who) ? chances[who] : 0));
            for (int goes = 0; goes <= sits && goes <= EVERYBODY; goes++) {
                int state = THREES[goes] + 2 * THREES[(stirs | gone) & EVERYBODY];
                int factor = (goes & ~sits) == 0 ? waysToGo(sits, goes) : 0;
                if (factor != 0 && state < STATES) {
                    to[state].addTimes(scaled, factor);
                }
            }
        }

        private int waysToGo(int sits, int goes) {
            int factor = 1;
            for (int p = 0; p < persons && p < PERSONS; p++) {
                if (p == who) {
                    continue;
                }
                boolean does = (goes >> p & 1) == 1;
                factor *= (sits >> p & 1) == 0 ? 100 : does ? chances[p] : 100 - chances[p];
            }
            return factor;
        }

        /** ALONE of a PERSON, LINE of all (NONE): who sees and hears none needs no ways of the others. */
        private void reckonAlone(int person, int glances) {
            scene.alter(Scene.NONE_SEES);
            scene.alter(Scene.NONE_HEARS);
            start(NONE);
            for (int g = 0; g < glances && g < GLANCES; g++) {
                for (int p = 0; p < persons && p < PERSONS; p++) {
                    boolean counts = person == NONE || person == p;
                    stayed.timesSmall(counts ? 100 - scene.chanceOf(p, g, 0, 0) : 100);
                }
                glance++;
            }
            tell();
        }

        private int fewest(int many, int glances) {
            int best = NONE;
            for (int n = 1; n <= many && n <= PERSONS; n++) {
                scene.plan.many = n;
                reckonAny(glances);
                // All by the number below that belongs to five, so that they can be compared.
                for (int i = n * glances; i < PERSONS * glances; i++) {
                    stayed.timesSmall(100);
                }
                if (best == NONE || stayed.against(other) < 0) {
                    best = n;
                    other.setBig(stayed);
                }
            }
            return best;
        }
    }

    /** What each LAW COUNTS, by numbers below that all LAWS share. */
    private static final class Scales {
        // Twelve TRIALS of 121 digits, a WEIGHT, four LAWS and a million: fewer than 1,480 digits.
        private static final int LIMBS = 170;

        private final Reckoner reckoner = new Reckoner();
        private int laws = 0;
        private final Big[] loaded = new Big[LAWS];
        private final Big[] counts = new Big[LAWS];
        private final Big[] went = new Big[LAWS];
        private final Big[] stayed = new Big[LAWS];
        private final Big product = new Big(LIMBS);
        private final Big all = new Big(LIMBS);
        private final Big part = new Big(LIMBS);

        private Scales() {
            for (int n = 0; n < LAWS; n++) {
                loaded[n] = new Big(LIMBS);
                counts[n] = new Big(LIMBS);
                went[n] = new Big(Reckoner.LIMBS);
                stayed[n] = new Big(Reckoner.LIMBS);
            }
        }

        private void load(Room room) {
            laws = Math.min(LAWS, room.lawMany);
            for (int n = 0; n < laws; n++) {
                loaded[n].setSmall(room.weight[n]);
                for (int t = 0; t < room.trials.many && t < TRIALS; t++) {
                    reckoner.scene.take(room, room.trials.first[t], n);
                    reckoner.reckonAny(room.lasts);
                    multiply(loaded[n], room.trials.second[t] == 1 ? reckoner.told : reckoner.stayed);
                }
                counts[n].setBig(loaded[n]);
            }
        }

        private void loadUnprinted(Room room, int plan) {
            for (int n = 0; n < laws && n < LAWS; n++) {
                reckoner.scene.take(room, plan, n);
                reckoner.reckonAny(room.lasts);
                went[n].setBig(reckoner.told);
                stayed[n].setBig(reckoner.stayed);
            }
        }

        private void suppose(int any, int none) {
            for (int n = 0; n < laws && n < LAWS; n++) {
                counts[n].setBig(loaded[n]);
                for (int i = 0; i < any && i < UNPRINTED; i++) {
                    multiply(counts[n], went[n]);
                }
                for (int i = 0; i < none && i < UNPRINTED; i++) {
                    multiply(counts[n], stayed[n]);
                }
            }
        }

        private void multiply(Big number, Big by) {
            product.setProduct(number, by);
            number.setBig(product);
        }

        private int share(int law) {
            all.setZero();
            for (int n = 0; n < laws && n < LAWS; n++) {
                all.addTimes(counts[n], 1);
            }
            if (all.used == 0 || law < 0 || law >= laws || law >= LAWS) {
                return 0;
            }
            product.setBig(counts[law]);
            product.timesSmall(MILLION);
            int least = 0;
            for (int more = 1 << 19; more > 0; more /= 2) {
                part.setBig(all);
                part.timesSmall(least + more);
                if (part.against(product) <= 0) {
                    least += more;
                }
            }
            return least;
        }
    }
}
