/** Edges of promises 1 to 10 and of Terms I: how the rooms are. */
final class RoomEdges {
    private static final int NONE = SmokeRoom.NONE;
    /** Numbers that no argument of these calls may be. */
    private static final int[] FAR = {Integer.MIN_VALUE, -2, 400, Integer.MAX_VALUE};

    private RoomEdges() {
    }

    static void look(Due d) {
        newObject(d);
        use(d);
        people(d);
        person(d);
        paid(d);
        sees(d);
        ask(d);
        friends(d);
        lasts(d);
        size(d);
    }

    private static void newObject(Due d) {
        SmokeRoom x = new SmokeRoom();
        d.says(1, "No PERSONS in any PLAN, no LAWS.");
        d.is("laws", x.count(1), 0);
        d.is("reasons of the first", x.reasons(0), NONE);
        for (int plan = 0; plan < 6; plan++) {
            x.use(plan);
            d.is("persons", x.count(0), 0);
            d.is("nobody is there", x.odds(0, 0), NONE);
            d.is("had none", x.people(0), 0);
        }
        d.refused("force of the first", x, x.force(0), -2);
    }

    private static void use(Due d) {
        SmokeRoom x = new SmokeRoom();
        d.terms("I. PLANS 0 .. 5 are rooms; one is in USE (0 at first).");
        d.is("at first", x.count(10), 0);
        d.says(2, "A PLAN is in USE: which was. -1.");
        d.taken("the last", x, x.use(5), 0);
        d.refused("too large", x, x.use(6), -1);
        d.refused("too small", x, x.use(-1), -1);
        for (int far : FAR) d.refused("far off", x, x.use(far), -1);
        d.is("the last stays in use", x.count(10), 5);
        d.taken("the last once more", x, x.use(5), 5);
        d.taken("the first", x, x.use(0), 5);
    }

    private static void people(Due d) {
        SmokeRoom x = new SmokeRoom();
        d.says(3, "The PLAN in USE has so many PERSONS (0 .. 5): how many it had. -1.");
        d.taken("empty stays empty", x, x.people(0), 0);
        d.taken("full", x, x.people(5), 0);
        d.refused("too many", x, x.people(6), -1);
        d.refused("too few", x, x.people(-1), -1);
        for (int far : FAR) d.refused("far off", x, x.people(far), -1);
        d.is("full it stays", x.count(0), 5);
        x.use(5);
        d.taken("in another plan none", x, x.people(1), 0);
        x.use(0);
        d.taken("empty", x, x.people(0), 5);
        d.is("empty it is", x.count(0), 0);
        x.use(5);
        d.is("the other keeps its own", x.count(0), 1);
    }

    private static void person(Due d) {
        SmokeRoom x = new SmokeRoom();
        int[] most = {7, 9, 9};
        d.terms("PERSONS 0 .. 4 of each PLAN (0 .. 5 of them, 0 at first): KIND 0 .. 7, AFRAID 0 .. 9, SKILL 0 .. 9"
            + " (all the same for all PLANS: by number);");
        for (int p = 0; p < 5; p++) {
            for (int what = 0; what < 3; what++) d.taken("0 at first", x, x.person(p, what, most[what] - p), 0);
        }
        x.use(5);
        for (int p = 0; p < 5; p++) {
            for (int what = 0; what < 3; what++) d.taken("of that plan too", x, x.person(p, what, 0), most[what] - p);
        }
        d.says(4, "KIND (what 0), AFRAID (1), SKILL (2) of a PERSON 0 .. 4: what it was. -1.");
        for (int what = 0; what < 3; what++) {
            d.taken("the most", x, x.person(4, what, most[what]), 0);
            d.refused("more", x, x.person(4, what, most[what] + 1), -1);
            d.refused("below 0", x, x.person(4, what, -1), -1);
            for (int far : FAR) d.refused("a value far off", x, x.person(4, what, far), -1);
            d.taken("what it was stays", x, x.person(4, what, 0), most[what]);
            d.refused("person 5", x, x.person(5, what, 0), -1);
            d.refused("person -1", x, x.person(-1, what, 0), -1);
        }
        d.refused("what 3", x, x.person(0, 3, 0), -1);
        d.refused("what -1", x, x.person(0, -1, 0), -1);
        for (int far : FAR) {
            d.refused("a person far off", x, x.person(far, 0, 0), -1);
            d.refused("a what far off", x, x.person(0, far, 0), -1);
        }
    }

    private static void paid(Due d) {
        SmokeRoom x = new SmokeRoom();
        x.people(5);
        d.terms("PAID in a PLAN: 0 not (at first), 1 to STAY, 2 to GO at a GLANCE;");
        for (int p = 0; p < 5; p++) d.taken("not at first", x, x.paid(p, 0, 0), 0);
        d.taken("at the first glance", x, x.paid(0, 2, 0), 0);
        d.taken("at the last glance", x, x.paid(4, 2, 11), 0);
        d.is("goes at the first", x.chance(0, 0, 0, 0), 100);
        d.is("does not go ahead of the last", x.chance(4, 10, 0, 0), 0);
        d.is("goes at the last", x.chance(4, 11, 0, 0), 100);
        d.says(5, "PAID in the PLAN in USE (how 0, 1, 2; a GLANCE for 2, else 0): how it was. -1.");
        d.refused("to go at 12", x, x.paid(4, 2, 12), -1);
        d.refused("to go at -1", x, x.paid(4, 2, -1), -1);
        d.refused("not, at 1", x, x.paid(4, 0, 1), -1);
        d.refused("not, at -1", x, x.paid(4, 0, -1), -1);
        d.refused("to stay, at 1", x, x.paid(4, 1, 1), -1);
        d.refused("to stay, at -1", x, x.paid(4, 1, -1), -1);
        d.refused("to stay, at 11", x, x.paid(4, 1, 11), -1);
        d.refused("how 3", x, x.paid(4, 3, 0), -1);
        d.refused("how -1", x, x.paid(4, -1, 0), -1);
        d.refused("person 5", x, x.paid(5, 2, 0), -1);
        d.refused("person -1", x, x.paid(-1, 2, 0), -1);
        for (int far : FAR) {
            d.refused("a person far off", x, x.paid(far, 0, 0), -1);
            d.refused("a how far off", x, x.paid(4, far, 0), -1);
            d.refused("a glance far off", x, x.paid(4, 2, far), -1);
            d.refused("a glance far off for 0", x, x.paid(4, 0, far), -1);
        }
        d.is("ahead of the last as it was", x.chance(4, 10, 0, 0), 0);
        d.is("at the last as it was", x.chance(4, 11, 0, 0), 100);
        x.use(1);
        d.taken("in another plan not", x, x.paid(4, 1, 0), 0);
        d.taken("to stay", x, x.paid(4, 0, 0), 1);
        x.use(0);
        d.taken("to go", x, x.paid(4, 0, 0), 2);
        d.taken("not", x, x.paid(4, 0, 0), 0);
    }

    private static void sees(Due d) {
        SmokeRoom x = Tape.room(5, 1, "go 10 * still + heard");
        d.terms("SEES, HEARS in a PLAN: other PERSONS, as bits (all at first);");
        d.is("all four are seen", x.chance(0, 0, 0, 0), 40);
        d.is("all four are heard", x.chance(4, 0, 31, 0), 4);
        d.says(6, "SEES (what 0), HEARS (1) in the PLAN in USE, as bits 0 .. 31 (its own one counts for nothing): which it was."
            + " -1.");
        d.taken("none", x, x.sees(0, 0, 0), 31);
        d.is("none is seen", x.chance(0, 0, 0, 0), 0);
        d.taken("all", x, x.sees(0, 0, 31), 0);
        d.is("all but itself", x.chance(0, 0, 0, 0), 40);
        d.taken("itself alone", x, x.sees(4, 1, 16), 31);
        d.is("that is nothing", x.chance(4, 0, 31, 0), 0);
        d.taken("the highest other", x, x.sees(0, 1, 16), 31);
        d.is("it is heard", x.chance(0, 0, 16, 0), 31);
        for (int what = 0; what < 2; what++) {
            d.refused("32", x, x.sees(0, what, 32), -1);
            d.refused("-1", x, x.sees(0, what, -1), -1);
            d.refused("person 5", x, x.sees(5, what, 0), -1);
            d.refused("person -1", x, x.sees(-1, what, 0), -1);
            for (int far : FAR) d.refused("bits far off", x, x.sees(0, what, far), -1);
        }
        d.refused("what 2", x, x.sees(0, 2, 0), -1);
        d.refused("what -1", x, x.sees(0, -1, 0), -1);
        for (int far : FAR) {
            d.refused("a person far off", x, x.sees(far, 0, 0), -1);
            d.refused("a what far off", x, x.sees(0, far, 0), -1);
        }
        d.is("as it was", x.chance(0, 0, 16, 0), 31);
        x.use(5);
        d.taken("in another plan all", x, x.sees(0, 1, 1), 31);
        x.use(0);
        d.taken("as told here", x, x.sees(0, 1, 31), 16);
    }

    private static void ask(Due d) {
        SmokeRoom x = Tape.room(5, 1, "go asked");
        d.terms("ASKED in a PLAN from a GLANCE on (NONE: not; at first).");
        for (int p = 0; p < 5; p++) d.taken("not at first", x, x.ask(p, NONE), NONE);
        d.is("not at the last glance", x.chance(4, 11, 0, 0), 0);
        d.says(7, "ASKED in the PLAN in USE from a GLANCE on (NONE: not): what it was. -1.");
        d.taken("from the last on", x, x.ask(4, 11), NONE);
        d.is("ahead of it", x.chance(4, 10, 0, 0), 0);
        d.is("at it", x.chance(4, 11, 0, 0), 1);
        d.refused("from 12 on", x, x.ask(4, 12), -1);
        d.refused("from -2 on", x, x.ask(4, -2), -1);
        d.refused("person 5", x, x.ask(5, 0), -1);
        d.refused("person -1", x, x.ask(-1, 0), -1);
        for (int far : FAR) {
            d.refused("a glance far off", x, x.ask(4, far), -1);
            d.refused("a person far off", x, x.ask(far, 0), -1);
        }
        d.taken("from the first on", x, x.ask(4, 0), 11);
        d.is("at the first", x.chance(4, 0, 0, 0), 1);
        x.use(3);
        d.taken("in another plan not", x, x.ask(4, 5), NONE);
        x.use(0);
        d.taken("not", x, x.ask(4, NONE), 0);
        d.taken("was not", x, x.ask(4, NONE), NONE);
        d.is("not any more", x.chance(4, 0, 0, 0), 0);
    }

    private static void friends(Due d) {
        SmokeRoom x = Tape.room(5, 1, "go friends");
        d.terms("FRIENDS are two PERSONS (none at first).");
        for (int p = 0; p < 5; p++) d.is("none", x.chance(p, 0, 31, 0), 0);
        d.says(8, "Two are FRIENDS (1) or not (0): what they were. -1 (the same one, too).");
        d.taken("the first and the last", x, x.friends(0, 4, 1), 0);
        d.taken("either way", x, x.friends(4, 0, 1), 1);
        d.is("of the first", x.chance(0, 0, 16, 0), 1);
        d.is("of the last", x.chance(4, 0, 1, 0), 1);
        d.is("of no other", x.chance(1, 0, 29, 0), 0);
        for (int p = 0; p < 5; p++) {
            d.refused("the same one", x, x.friends(p, p, 1), -1);
            d.refused("the same one not", x, x.friends(p, p, 0), -1);
        }
        d.refused("one is 5", x, x.friends(5, 0, 1), -1);
        d.refused("one is -1", x, x.friends(-1, 0, 1), -1);
        d.refused("other is 5", x, x.friends(0, 5, 1), -1);
        d.refused("other is -1", x, x.friends(0, -1, 1), -1);
        d.refused("are 2", x, x.friends(0, 4, 2), -1);
        d.refused("are -1", x, x.friends(0, 4, -1), -1);
        for (int far : FAR) {
            d.refused("one far off", x, x.friends(far, 0, 1), -1);
            d.refused("other far off", x, x.friends(0, far, 1), -1);
            d.refused("the same one far off", x, x.friends(far, far, 1), -1);
            d.refused("are far off", x, x.friends(0, 4, far), -1);
        }
        x.use(2);
        d.taken("not, from another plan", x, x.friends(4, 0, 0), 1);
        d.taken("were not", x, x.friends(0, 4, 0), 0);
    }

    private static void lasts(Due d) {
        SmokeRoom x = new SmokeRoom();
        d.terms("GLANCES 0 .. 11; so many there are in all: LONG 1 .. 12 (6 at first).");
        d.is("all at first", x.odds(NONE, 6), 0);
        d.is("no more", x.odds(NONE, 7), NONE);
        d.says(9, "LONG: what it was. -1.");
        d.taken("the most", x, x.lasts(12), 6);
        d.is("twelve", x.odds(NONE, 12), 0);
        d.refused("too long", x, x.lasts(13), -1);
        d.refused("none at all", x, x.lasts(0), -1);
        d.refused("below 0", x, x.lasts(-1), -1);
        for (int far : FAR) d.refused("far off", x, x.lasts(far), -1);
        d.is("twelve still", x.odds(NONE, 12), 0);
        d.is("thirteen can't be", x.odds(NONE, 13), NONE);
        d.taken("the least", x, x.lasts(1), 12);
        d.is("one", x.odds(NONE, 1), 0);
        d.is("not two", x.odds(NONE, 2), NONE);
        d.taken("the same", x, x.lasts(1), 1);
    }

    private static void size(Due d) {
        SmokeRoom x = new SmokeRoom();
        d.terms("The THING has a SIZE 0 .. 99 at each GLANCE (10 times the GLANCE and 10 at first, 99 at most).");
        int[] first = {10, 20, 30, 40, 50, 60, 70, 80, 90, 99, 99, 99};
        for (int g = 0; g < 12; g++) d.taken("at " + g, x, x.size(g, g), first[g]);
        for (int g = 0; g < 12; g++) d.taken("each its own", x, x.size(g, 0), g);
        d.says(10, "SIZE at a GLANCE: what it was. -1.");
        d.taken("the most", x, x.size(11, 99), 0);
        d.refused("more", x, x.size(11, 100), -1);
        d.refused("below 0", x, x.size(11, -1), -1);
        d.refused("glance 12", x, x.size(12, 0), -1);
        d.refused("glance -1", x, x.size(-1, 0), -1);
        for (int far : FAR) {
            d.refused("far off", x, x.size(11, far), -1);
            d.refused("a glance far off", x, x.size(far, 0), -1);
        }
        d.taken("the least", x, x.size(11, 0), 99);
        d.taken("was the least", x, x.size(11, 5), 0);
    }
}
