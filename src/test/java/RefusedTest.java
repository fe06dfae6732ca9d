import java.util.ArrayList;
import java.util.List;

/**
 * What a refused call, and a call that only asks, leaves behind it: two rooms are made alike, one of them
 * is called, and then all that either tells must be the same but for what was REFUSED.
 */
public final class RefusedTest {
    private static final int NONE = SmokeRoom.NONE;
    private static final int LEAST = Integer.MIN_VALUE;
    private static final int MOST = Integer.MAX_VALUE;
    private static int wrong = 0;
    private static int looked = 0;

    private interface Call {
        int on(SmokeRoom x);
    }

    private interface Maker {
        SmokeRoom make();
    }

    private static void is(String what, int got, int due) {
        looked++;
        if (got == due) return;
        wrong++;
        System.out.println(what + ": " + got + ", due is " + due);
    }

    /** A room with something of everything, and room for more of everything. */
    private static SmokeRoom furnished() {
        SmokeRoom x = Tape.room(3, 4, "go 20 + 5 * stirs + asked; hold still; hold kind if heard > 0");
        Tape.law(x, "go 60 - size / 2; hold skill");
        x.weigh(1, 7);
        x.paid(2, 2, 3);
        x.sees(0, 0, 6);
        x.sees(1, 1, 5);
        x.ask(1, 2);
        for (int p = 0; p < 5; p++) for (int what = 0; what < 3; what++) x.person(p, what, p + what);
        x.friends(0, 1, 1);
        x.size(2, 77);
        x.trial(0, 1);
        x.street(3, 10, 1);
        x.window(4, 1, 0);
        x.image(0);
        x.use(4);
        x.people(2);
        x.paid(1, 1, 0);
        x.run(11);
        Tape.law(x, "go x");
        Tape.put(x, "go 33");
        x.use(4);
        return x;
    }

    /** No LAW, TRIAL, STREET or WINDOW has room any more. */
    private static SmokeRoom full() {
        SmokeRoom x = Tape.room(2, 2, "go 30");
        for (int n = 1; n < 4; n++) Tape.law(x, "go 3" + n);
        for (int t = 0; t < 8; t++) x.trial(t % 3, t % 2);
        for (int s = 0; s < 40; s++) x.street(s % 8, 1 + s, s % 2);
        for (int w = 0; w < 40; w++) x.window(w % 10, w % 2, w / 20);
        x.image(1);
        return x;
    }

    /** All that can be seen of a room; it is not as it was behind this. */
    private static List<Integer> all(SmokeRoom x) {
        List<Integer> told = new ArrayList<>();
        for (int what : new int[] {0, 1, 2, 3, 4, 5, 10, 11}) told.add(x.count(what));
        told.add(x.fault());
        for (int p = 0; p < 5; p++) told.add(x.went(p));
        for (int n = 0; n < 4; n++) {
            told.add(x.likely(n));
            told.add(x.reasons(n));
            told.add(x.force(n));
            told.add(x.chance(0, 1, 2, 0));
            told.add(x.weigh(n, 1));
        }
        x.force(NONE);
        told.add(x.lasts(12));
        nights(x, told);
        settings(x, told);
        told.add(x.law());
        told.add(x.fault());
        for (int k = 0; k < 2; k++) {
            told.add(x.back(k));
            for (int what : new int[] {0, 1, 2, 3, 4, 10, 11}) told.add(x.count(what));
            told.add(x.odds(NONE, 1));
            told.add(x.person(4, 1, 0));
        }
        return told;
    }

    private static void nights(SmokeRoom x, List<Integer> told) {
        for (int thing = 0; thing < 3; thing++) {
            for (int with = 0; with < 2; with++) for (int what = 0; what < 3; what++) told.add(x.streets(thing, with, what));
        }
        for (int cries = 0; cries < 10; cries += 3) {
            for (int many = 0; many <= 40; many += 8) told.add(x.tale(many, cries, many, many));
        }
    }

    private static void settings(SmokeRoom x, List<Integer> told) {
        for (int plan = 0; plan < 6; plan++) {
            x.use(plan);
            told.add(x.count(0));
            x.people(5);
            x.run(0);
            for (int p = 0; p < 5; p++) {
                told.add(x.went(p));
                told.add(x.paid(p, 0, 0));
                told.add(x.sees(p, 0, 0));
                told.add(x.sees(p, 1, 0));
                told.add(x.ask(p, NONE));
            }
        }
        for (int p = 0; p < 5; p++) {
            for (int what = 0; what < 3; what++) told.add(x.person(p, what, 0));
            for (int other = 0; other < p; other++) told.add(x.friends(p, other, 0));
        }
        for (int g = 0; g < 12; g++) told.add(x.size(g, 0));
    }

    private static void same(String what, SmokeRoom called, SmokeRoom other) {
        List<Integer> one = all(called);
        List<Integer> two = all(other);
        for (int i = 0; i < two.size(); i++) is(what + " changed what is told, " + i, one.get(i), two.get(i));
    }

    private static void refused(String what, Maker maker, int by, Call call) {
        SmokeRoom x = maker.make();
        SmokeRoom y = maker.make();
        is(what, call.on(x), by);
        is(what + ", status", x.status(), by);
        int[] codes = {-1, -2, -5, -6};
        for (int k = 0; k < 4; k++) is(what + ", count " + k, x.count(6 + k) - y.count(6 + k), codes[k] == by ? 1 : 0);
        same(what, x, y);
    }

    /** The same status and counts, too. */
    private static void asked(String what, Maker maker, Call call) {
        SmokeRoom x = maker.make();
        SmokeRoom y = maker.make();
        x.use(LEAST);
        y.use(LEAST);
        call.on(x);
        is(what + ", status", x.status(), y.status());
        for (int k = 6; k < 10; k++) is(what + ", count " + k, x.count(k), y.count(k));
        same(what, x, y);
    }

    private static void cantBe(Maker m) {
        for (int bad : new int[] {LEAST, -2, 100000000, MOST}) {
            refused("use", m, -1, x -> x.use(bad));
            refused("people", m, -1, x -> x.people(bad));
            refused("person, who", m, -1, x -> x.person(bad, 1, 1));
            refused("person, what", m, -1, x -> x.person(1, bad, 1));
            refused("person, value", m, -1, x -> x.person(1, 1, bad));
            refused("paid, who", m, -1, x -> x.paid(bad, 1, 0));
            refused("paid, how", m, -1, x -> x.paid(1, bad, 0));
            refused("paid, glance", m, -1, x -> x.paid(1, 2, bad));
            refused("sees, who", m, -1, x -> x.sees(bad, 0, 1));
            refused("sees, what", m, -1, x -> x.sees(1, bad, 1));
            refused("sees, others", m, -1, x -> x.sees(1, 0, bad));
            refused("hears, others", m, -1, x -> x.sees(1, 1, bad));
            refused("ask, who", m, -1, x -> x.ask(bad, 1));
            refused("ask, glance", m, -1, x -> x.ask(0, bad));
            refused("friends, one", m, -1, x -> x.friends(bad, 2, 1));
            refused("friends, other", m, -1, x -> x.friends(2, bad, 1));
            refused("friends, are", m, -1, x -> x.friends(2, 3, bad));
            refused("lasts", m, -1, x -> x.lasts(bad));
            refused("size, glance", m, -1, x -> x.size(bad, 1));
            refused("size, size", m, -1, x -> x.size(1, bad));
            refused("force", m, -2, x -> x.force(bad));
            refused("run", m, -1, x -> x.run(bad));
            refused("trial, plan", m, -1, x -> x.trial(bad, 1));
            refused("trial, any", m, -1, x -> x.trial(1, bad));
            refused("weigh, law", m, -2, x -> x.weigh(bad, 9));
            refused("weigh, weight", m, -1, x -> x.weigh(0, bad));
            refused("street, things", m, -1, x -> x.street(bad, 1, 1));
            refused("street, many", m, -1, x -> x.street(1, bad, 1));
            refused("street, helped", m, -1, x -> x.street(1, 1, bad));
            refused("window, cries", m, -1, x -> x.window(bad, 1, 1));
            refused("window, saw", m, -1, x -> x.window(1, bad, 1));
            refused("window, rang", m, -1, x -> x.window(1, 1, bad));
            refused("image", m, -1, x -> x.image(bad));
            refused("back", m, -1, x -> x.back(bad));
        }
        refused("people, 6", m, -1, x -> x.people(6));
        refused("paid to stay, glance", m, -1, x -> x.paid(2, 1, 1));
        refused("paid not, glance", m, -1, x -> x.paid(2, 0, 1));
        refused("paid to go, glance 12", m, -1, x -> x.paid(2, 2, 12));
        refused("ask, glance 12", m, -1, x -> x.ask(1, 12));
        refused("friends of itself", m, -1, x -> x.friends(3, 3, 1));
        refused("lasts 0", m, -1, x -> x.lasts(0));
        refused("lasts 13", m, -1, x -> x.lasts(13));
        refused("weigh 101", m, -1, x -> x.weigh(1, 101));
    }

    private static void noSuchNoRoom() {
        refused("no such law", RefusedTest::furnished, -2, x -> x.force(2));
        refused("no such law to weigh", RefusedTest::furnished, -2, x -> x.weigh(2, 9));
        refused("an image not kept", RefusedTest::furnished, -2, x -> x.back(1));
        refused("an image not kept of a full one", RefusedTest::full, -2, x -> x.back(0));
        refused("no room for a trial", RefusedTest::full, -5, x -> x.trial(0, 1));
        refused("no room for a street", RefusedTest::full, -5, x -> x.street(0, 1, 1));
        refused("no room for a window", RefusedTest::full, -5, x -> x.window(0, 1, 1));
        refused("no room for a law", RefusedTest::full, -5, x -> x.law());
        refused("a row of nothing", RefusedTest::full, -6, x -> x.row());
        refused("no room for a law on the tape", () -> taped(full(), 5), -5, x -> {
            int answer = x.law();
            return x.count(5) == 0 && taped(x, 5) == x ? answer : 0;
        });
        refused("a row too long", () -> taped(furnished(), 49), -6, x -> {
            int answer = x.row();
            return x.count(5) == 0 && taped(x, 49) == x ? answer : 0;
        });
    }

    private static SmokeRoom taped(SmokeRoom x, int bytes) {
        Tape.put(x, "hold 1" + " ".repeat(60));
        x.end(bytes);
        return x;
    }

    private static void asking(Maker m) {
        for (int n : new int[] {LEAST, -1, 0, 1, 2, 5, 12, 41, MOST}) {
            asked("end", m, x -> n > 5 || n < 0 ? x.end(n) : 0);
            asked("reasons", m, x -> x.reasons(n) + x.fault());
            asked("chance", m, x -> x.chance(n, 1, 1, 2) + x.chance(0, n, 2, 1) + x.chance(1, 0, n, n));
            asked("odds", m, x -> x.odds(n, 1) + x.odds(NONE, n) + x.odds(0, n));
            asked("digits", m, x -> x.digits(n, 1, 0) + x.digits(0, n, 0) + x.digits(NONE, 1, n));
            asked("alone", m, x -> x.alone(n, 1) + x.alone(NONE, n) + x.alone(0, n));
            asked("held", m, x -> x.held(n, 0) + x.held(0, n));
            asked("parts", m, x -> x.parts(n, 0, 0) + x.parts(0, n, 1) + x.parts(0, 1, n));
            asked("gentle", m, x -> x.gentle(n, 0, 891, 0) + x.gentle(0, 1, n, 1) + x.gentle(0, 1, 891, n));
            asked("fright", m, x -> x.fright(n));
            asked("moved", m, x -> x.moved(n, 4) + x.moved(0, n) + x.moved(4, n));
            asked("span", m, x -> x.span(n, 0) + x.span(2, n));
            asked("crowd", m, x -> x.crowd(n, 1) + x.crowd(NONE, n) + x.crowd(0, n));
            asked("sooner", m, x -> x.sooner(n, 1000000) + x.sooner(0, n));
            asked("words, few", m, x -> x.words(n) + x.words(1000000) + x.few());
            asked("went, worlds", m, x -> x.went(n) + x.worlds(n, 5) + x.worlds(3, n));
            asked("likely", m, x -> x.likely(n));
            asked("printed", m, x -> x.printed(n, 0, 1, 0) + x.printed(0, n, 2, 1) + x.printed(0, 0, n, 0) + x.printed(0, 0, 4, n));
            asked("next", m, x -> x.next(n, 0, 0) + x.next(0, n, 1) + x.next(0, 1, n));
            asked("streets", m, x -> x.streets(n, 0, 0) + x.streets(0, n, 0) + x.streets(0, 0, n) + x.differs());
            asked("tale", m, x -> x.tale(n, 1, 1, 1) + x.tale(1, n, 1, 1) + x.tale(1, 1, n, 1) + x.tale(1, 1, 1, n));
            asked("count, status", m, x -> x.count(n) + x.status());
        }
    }

    private static void fullTape() {
        Maker m = () -> {
            SmokeRoom x = furnished();
            Tape.put(x, "go 7" + " ".repeat(377));
            return x;
        };
        asked("feed of 381", m, x -> x.feed(-1, -1, -1, -1, -1));
        asked("end of 382", m, x -> x.end(382));
    }

    public static void main(String[] args) {
        cantBe(RefusedTest::furnished);
        cantBe(RefusedTest::full);
        noSuchNoRoom();
        asking(RefusedTest::furnished);
        asking(RefusedTest::full);
        fullTape();
        System.out.println(looked + " answers behind refused and asking calls, " + wrong + " not as due");
        if (wrong != 0) System.exit(1);
    }
}
