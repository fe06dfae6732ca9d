/** Edges of promises 32 to 34: WORLDS by DRAWS. */
final class WorldEdges {
    private static final int NONE = SmokeRoom.NONE;
    private static final int[] FAR = {Integer.MIN_VALUE, -2, 2000000, Integer.MAX_VALUE};

    private WorldEdges() {
    }

    static void look(Due d) {
        draws(d);
        byTurns(d);
        allAtOnce(d);
        run(d);
        went(d);
        worlds(d);
        hundred(d);
    }

    /** Each SEED with what its first DRAW of 100 is: just above that CHANCE it goes, at it it does not. */
    private static void draws(Due d) {
        d.terms("A WORLD: s is a SEED; a DRAW of n: s becomes (s times 1103 and 12345) modulo 1,000,003, it is s modulo n.");
        int[][] seeds = {{0, 45}, {1, 48}, {1000000, 36}, {870345, 0}, {327279, 2}, {241150, 0}, {633717, 99}, {176780, 0}};
        for (int[] s : seeds) {
            SmokeRoom x = Tape.room(1, 1, "go " + s[1]);
            d.is("at " + s[1] + " of seed " + s[0], x.run(s[0]), 0);
            d.is("the same", x.worlds(1, s[0]), 0);
            SmokeRoom y = Tape.room(1, 1, "go " + (s[1] + 1));
            d.is("above " + s[1] + " of seed " + s[0], y.run(s[0]), 1);
            d.is("the same", y.worlds(1, s[0]), 1);
        }
    }

    /** From SEED 0 the DRAWS are 45, 41, 89, 57, 60. */
    private static void byTurns(Due d) {
        d.terms("GLANCE by GLANCE, PERSON by PERSON (who sits) a DRAW of 100: below CHANCE it goes");
        d.is("the second of two", Tape.room(2, 1, "go 42").run(0), 2);
        d.is("none of two", Tape.room(2, 1, "go 41").run(0), 0);
        d.is("both", Tape.room(2, 1, "go 46").run(0), 3);
        SmokeRoom x = Tape.room(3, 1, "go 42");
        x.paid(0, 1, 0);
        d.is("who is paid to stay draws too", x.run(0), 2);
        x.paid(0, 2, 0);
        d.is("who is paid to go draws too", x.run(0), 3);
        SmokeRoom y = Tape.room(2, 2, "go 46 if kind = 0; go 90 if kind = 1 and glance = 1");
        y.person(1, 0, 1);
        d.is("who went draws no more: 89 for the other", y.run(0), 3);
        d.is("at the second glance", y.went(1), 1);
        SmokeRoom z = Tape.room(2, 2, "go 46 if kind = 0; go 89 if kind = 1 and glance = 1");
        z.person(1, 0, 1);
        d.is("89 is not below 89", z.run(0), 1);
        SmokeRoom w = Tape.room(2, 3, "go 58 if kind = 1 and glance = 1; go 60 if kind = 1 and glance > 1");
        w.person(1, 0, 1);
        d.is("glance by glance: 45 41, 89 57", w.run(0), 2);
        d.is("at the second", w.went(1), 1);
    }

    private static void allAtOnce(Due d) {
        d.terms("(all behind the last DRAW of the GLANCE).");
        SmokeRoom x = Tape.room(3, 2, "go 100 * [stirs + gone]");
        x.paid(0, 2, 0);
        d.is("all in the end", x.run(0), 7);
        d.is("one at once", x.went(0), 0);
        d.is("the next one at the next glance", x.went(1), 1);
        d.is("so the last one", x.went(2), 1);
        x.lasts(1);
        d.is("within one glance none but the first", x.run(0), 1);
    }

    private static void run(Due d) {
        SmokeRoom x = Tape.room(5, 12, "go 100");
        d.says(32, "A WORLD of the PLAN in USE by the LAW in FORCE with a SEED (0 .. 1,000,000), kept as the latest: PERSONS that went,"
            + " as bits. -1.");
        d.taken("the least seed", x, x.run(0), 31);
        d.taken("the greatest seed", x, x.run(1000000), 31);
        d.refused("one more", x, x.run(1000001), -1);
        d.refused("below 0", x, x.run(-1), -1);
        for (int far : FAR) d.refused("far off", x, x.run(far), -1);
        d.is("the latest stays", x.went(4), 0);
        x.paid(4, 2, 11);
        d.taken("one at the last glance", x, x.run(7), 31);
        d.is("it is kept", x.went(4), 11);
        x.lasts(11);
        d.taken("not any more", x, x.run(7), 15);
        d.is("nor is that kept", x.went(4), NONE);
        x.force(NONE);
        d.taken("none in force", x, x.run(7), 0);
        x.force(0);
        x.use(1);
        d.taken("a plan without persons", x, x.run(7), 0);
        d.is("nobody went", x.went(0), NONE);
        x.people(1);
        d.taken("a plan with one", x, x.run(7), 1);
    }

    private static void went(Due d) {
        SmokeRoom x = Tape.room(2, 6, "go 100 if glance = 3");
        d.says(33, "The GLANCE at which a PERSON went in the latest WORLD; NONE.");
        d.is("ahead of any", x.went(0), NONE);
        x.run(1);
        d.is("the first", x.went(0), 3);
        d.is("the second", x.went(1), 3);
        d.is("not there", x.went(2), NONE);
        d.is("4", x.went(4), NONE);
        d.is("5", x.went(5), NONE);
        d.is("-1", x.went(-1), NONE);
        for (int far : FAR) d.is("far off", x.went(far), NONE);
        x.people(1);
        x.use(3);
        d.is("what is now does not matter", x.went(1), 3);
        x.use(0);
        x.run(1);
        d.is("in the latest it was not there", x.went(1), NONE);
    }

    private static void worlds(Due d) {
        SmokeRoom x = Tape.room(1, 1, "go 42");
        d.says(34, "In how many of n WORLDS (1 .. 100) one behind the other, the first with a SEED, ANY went.");
        d.is("one: 45", x.worlds(1, 0), 0);
        d.is("two: 45, 41", x.worlds(2, 0), 1);
        d.is("three: 45, 41, 89", x.worlds(3, 0), 1);
        d.is("the greatest seed: 36", x.worlds(1, 1000000), 1);
        d.is("36, 26", x.worlds(2, 1000000), 2);
        d.is("36, 26, 86", x.worlds(3, 1000000), 2);
        d.says(34, "NONE.");
        d.is("0", x.worlds(0, 0), NONE);
        d.is("-1", x.worlds(-1, 0), NONE);
        d.is("101", x.worlds(101, 0), NONE);
        d.is("seed -1", x.worlds(1, -1), NONE);
        d.is("seed 1000001", x.worlds(1, 1000001), NONE);
        for (int far : FAR) {
            d.is("n far off", x.worlds(far, 0), NONE);
            d.is("seed far off", x.worlds(1, far), NONE);
        }
        d.is("no refusal", x.status(), 0);
        x.run(1000000);
        x.worlds(1, 0);
        d.is("the latest is that of run", x.went(0), 0);
    }

    private static void hundred(Due d) {
        d.says(34, "In how many of n WORLDS (1 .. 100) one behind the other, the first with a SEED, ANY went.");
        SmokeRoom x = Tape.room(2, 2, "go 30");
        for (int n = 1; n <= 100; n += 11) d.is(n + " worlds", x.worlds(n, 999999), drawn(n, 999999));
        x.people(0);
        d.is("without persons", x.worlds(100, 0), 0);
        d.is("a hundred", Tape.room(5, 12, "go 100").worlds(100, 5), 100);
    }

    /** Two PERSONS through two GLANCES by CHANCE 30, drawn here by hand. */
    private static int drawn(int n, int seed) {
        long s = seed;
        int any = 0;
        for (int k = 0; k < n; k++) {
            boolean[] went = new boolean[2];
            for (int draw = 0; draw < 4; draw++) {
                if (went[draw % 2]) continue;
                s = (s * 1103 + 12345) % 1000003;
                went[draw % 2] = s % 100 < 30;
            }
            any += went[0] || went[1] ? 1 : 0;
        }
        return any;
    }
}
