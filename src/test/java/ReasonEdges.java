/** Edges of promises 22 to 27: what REASONS hold back, PLANS that part them, what moves a PLAN. */
final class ReasonEdges {
    private static final int NONE = SmokeRoom.NONE;
    private static final int NOTHING = -10000000;
    private static final int[] FAR = {Integer.MIN_VALUE, -2, 2000, Integer.MAX_VALUE};

    private ReasonEdges() {
    }

    static void look(Due d) {
        heldBack(d);
        held(d);
        parts(d);
        partsWithoutPersons(d);
        gentle(d);
        frightOfPlans(d);
        fright(d);
        movedBy(d);
        movedByOthers(d);
        moved(d);
        span(d);
    }

    private static void heldBack(Due d) {
        d.terms("HELD by a REASON: MILLIONTHS of ANY within LONG without that CLAUSE less those with it.");
        SmokeRoom x = Tape.room(2, 2, "go 40; hold 10; hold 0 - 20; hold 5 if glance = 1; hold 8 / 0");
        // With all: 30, then 25 of both; .49 * .5625 stay.
        d.is("without the first: 40, then 35", x.held(0, 0), 275625 - 152100);
        d.is("without one that is 0 at least", x.held(0, 1), 0);
        d.is("without the third: 30, then 30", x.held(0, 2), 275625 - 240100);
        d.is("without one that is broken", x.held(0, 3), 0);
        x.lasts(1);
        d.is("within LONG", x.held(0, 2), 0);
        SmokeRoom y = Tape.room(1, 4, "go 2; hold 1");
        // .07763184 and .03940399, each cut for itself.
        d.is("each is cut", y.held(0, 0), 77631 - 39403);
    }

    private static void held(Due d) {
        SmokeRoom x = Tape.room(1, 1, "hold 1;go 90;hold 2");
        x.use(5);
        x.people(2);
        d.says(22, "HELD by a REASON of the LAW in FORCE in a PLAN.");
        d.is("the first plan", x.held(0, 0), 10000);
        d.is("the last reason", x.held(0, 1), 20000);
        d.is("the last plan: .0169 less .0144", x.held(5, 0), 2500);
        d.is("a plan without persons", x.held(1, 0), 0);
        d.says(22, "NOTHING (-10,000,000) without.");
        d.is("plan 6", x.held(6, 0), NOTHING);
        d.is("plan -1", x.held(-1, 0), NOTHING);
        d.is("reason 2", x.held(0, 2), NOTHING);
        d.is("reason -1", x.held(0, -1), NOTHING);
        for (int far : FAR) {
            d.is("a plan far off", x.held(far, 0), NOTHING);
            d.is("a reason far off", x.held(0, far), NOTHING);
        }
        Tape.law(x, "go 1");
        x.force(1);
        d.is("a law without reasons", x.held(0, 0), NOTHING);
        x.force(NONE);
        d.is("none in force", x.held(0, 0), NOTHING);
        d.is("no refusal", x.status(), 0);
        SmokeRoom y = Tape.room(1, 1, "hold 1" + ";hold 1".repeat(10) + ";go 91");
        d.is("the last of eleven", y.held(0, 10), 10000);
        d.is("no twelfth", y.held(0, 11), NOTHING);
    }

    private static void parts(Due d) {
        d.terms("A PLAN PARTS two REASONS by how far what is HELD by each is apart.");
        SmokeRoom x = Tape.room(1, 1, "go 50; hold 10; hold 5 * still");
        d.is("10 and 0", x.parts(0, 1, 1), 100000);
        x.people(3);
        // 30 with both; 40 without the first, 40 without the second.
        d.is("10 and 10", x.parts(0, 1, 1), 0);
        d.is("a plan all the same", x.parts(0, 1, 0), 0);
        x.use(5);
        x.people(2);
        // 35 with both, 45 without the first, 40 without the second: .6975 and .64.
        d.says(23, "The PLAN (of those with PERSONS) that PARTS two REASONS most, of alike ones the first (what 0); by how much (1).");
        d.is("the last plan", x.parts(0, 1, 0), 5);
        d.is("by", x.parts(0, 1, 1), 57500);
        d.is("either way", x.parts(1, 0, 1), 57500);
        x.use(3);
        x.people(2);
        d.is("of alike ones the first", x.parts(0, 1, 0), 3);
        x.use(4);
        x.people(1);
        d.is("the one between, by more", x.parts(0, 1, 0), 4);
        d.is("by more", x.parts(0, 1, 1), 100000);
        d.says(23, "NONE.");
        d.is("what 2", x.parts(0, 1, 2), NONE);
        d.is("what -1", x.parts(0, 1, -1), NONE);
        d.is("one is 2", x.parts(2, 1, 0), NONE);
        d.is("other is 2", x.parts(0, 2, 0), NONE);
        d.is("one is -1", x.parts(-1, 1, 0), NONE);
        d.is("other is -1", x.parts(0, -1, 0), NONE);
        for (int far : FAR) {
            d.is("one far off", x.parts(far, 1, 0), NONE);
            d.is("other far off", x.parts(0, far, 0), NONE);
            d.is("what far off", x.parts(0, 1, far), NONE);
        }
        x.force(NONE);
        d.is("none in force", x.parts(0, 1, 0), NONE);
    }

    private static void partsWithoutPersons(Due d) {
        d.says(23, "NONE.");
        SmokeRoom x = Tape.room(0, 1, "go 50; hold 10; hold 5");
        d.is("no plan with persons", x.parts(0, 1, 0), NONE);
        d.is("nor by how much", x.parts(0, 1, 1), NONE);
        x.use(5);
        x.people(1);
        d.is("one plan", x.parts(0, 1, 0), 5);
        x.paid(0, 1, 0);
        d.is("it parts them by 0", x.parts(0, 1, 1), 0);
        d.is("the only one, by 0", x.parts(0, 1, 0), 5);
    }

    private static void gentle(Due d) {
        SmokeRoom x = Tape.room(1, 1, "go 50; hold 10; hold 5 * still");
        x.use(5);
        x.people(2);
        x.person(1, 1, 1);
        d.says(24, "The PLAN (of those with PERSONS and a FRIGHT not above a told one, 0 .. 891) that PARTS two REASONS most, of alike"
            + " ones the first (what 0); by how much (1).");
        d.is("fright 0 of the first plan", x.gentle(0, 1, 0, 0), 0);
        d.is("by", x.gentle(0, 1, 0, 1), 100000);
        x.person(0, 1, 9);
        x.size(0, 99);
        d.is("the most fright there is", x.gentle(0, 1, 891, 0), 0);
        d.is("one less", x.gentle(0, 1, 890, 0), NONE);
        d.is("by nothing", x.gentle(0, 1, 890, 1), NONE);
        x.person(0, 1, 0);
        d.is("just so much in the last plan", x.gentle(0, 1, 99, 0), 0);
        x.use(0);
        x.people(3);
        d.is("10 and 10, or the last plan", x.gentle(0, 1, 99, 0), 5);
        d.is("by so much", x.gentle(0, 1, 99, 1), 57500);
        d.is("not above 98: none", x.gentle(0, 1, 98, 0), NONE);
        x.use(4);
        x.people(1);
        d.is("not above 98: one", x.gentle(0, 1, 98, 0), 4);
        x.use(2);
        x.people(1);
        d.is("of alike ones the first", x.gentle(0, 1, 98, 0), 2);
        d.says(24, "NONE.");
        d.is("892", x.gentle(0, 1, 892, 0), NONE);
        d.is("-1", x.gentle(0, 1, -1, 0), NONE);
        d.is("what 2", x.gentle(0, 1, 891, 2), NONE);
        d.is("what -1", x.gentle(0, 1, 891, -1), NONE);
        d.is("one is 2", x.gentle(2, 1, 891, 0), NONE);
        d.is("other is 2", x.gentle(0, 2, 891, 0), NONE);
        d.is("one is -1", x.gentle(-1, 1, 891, 0), NONE);
        d.is("other is -1", x.gentle(0, -1, 891, 0), NONE);
        for (int far : FAR) {
            d.is("one far off", x.gentle(far, 1, 891, 0), NONE);
            d.is("other far off", x.gentle(0, far, 891, 0), NONE);
            d.is("fright far off", x.gentle(0, 1, far, 0), NONE);
            d.is("what far off", x.gentle(0, 1, 891, far), NONE);
        }
        x.force(NONE);
        d.is("none in force", x.gentle(0, 1, 891, 0), NONE);
        d.is("no plan with persons", Tape.room(0, 1, "hold 1; hold 2").gentle(0, 1, 891, 0), NONE);
    }

    private static void frightOfPlans(Due d) {
        d.terms("FRIGHT of a PLAN: the greatest SIZE within LONG times the greatest AFRAID of its PERSONS.");
        SmokeRoom x = new SmokeRoom();
        x.people(2);
        x.person(0, 1, 2);
        x.person(1, 1, 3);
        x.person(2, 1, 9);
        d.is("60 times 3, who is not there does not count", x.fright(0), 180);
        x.lasts(12);
        d.is("99 times 3", x.fright(0), 297);
        x.lasts(1);
        d.is("10 times 3", x.fright(0), 30);
        x.size(1, 99);
        d.is("what is behind LONG does not count", x.fright(0), 30);
        x.lasts(2);
        d.is("the last one counts", x.fright(0), 297);
        x.size(0, 0);
        x.size(1, 0);
        d.is("nothing there", x.fright(0), 0);
        x.size(0, 1);
        d.is("the first one counts", x.fright(0), 3);
        x.people(1);
        d.is("of one", x.fright(0), 2);
    }

    private static void fright(Due d) {
        SmokeRoom x = new SmokeRoom();
        x.use(5);
        x.people(5);
        for (int p = 0; p < 5; p++) x.person(p, 1, 9);
        x.size(5, 99);
        d.says(25, "FRIGHT of a PLAN (0 without PERSONS). NONE.");
        d.is("the most", x.fright(5), 891);
        d.is("without persons", x.fright(0), 0);
        d.is("plan 6", x.fright(6), NONE);
        d.is("plan -1", x.fright(-1), NONE);
        for (int far : FAR) d.is("far off", x.fright(far), NONE);
        d.is("no refusal", x.status(), 0);
    }

    private static void movedBy(Due d) {
        d.terms("MOVED of a PLAN: MILLIONTHS of ANY within LONG, if it were so in it, less as it is:");
        SmokeRoom x = Tape.room(2, 1, "go 10 + size / 10 + asked * 5 + alone * 7");
        x.size(0, 50);
        x.sees(0, 0, 0);
        x.ask(0, 1);
        x.ask(1, 0);
        x.paid(1, 1, 0);
        // Now: 22 for the one, who sees none and is asked too late, and 0 for the other, who is paid to stay.
        d.is("as it is", x.odds(NONE, 1), 220000);
        d.terms("2 all are ASKED from GLANCE 0 on, 3 none is; 4 none is PAID; 5 SIZE is 99 at all GLANCES, 6 it is 0;");
        d.is("all asked: 27", x.moved(0, 2), 50000);
        d.is("none asked: 22", x.moved(0, 3), 0);
        d.is("none paid: 22 and 20", x.moved(0, 4), 156000);
        d.is("size 99: 26", x.moved(0, 5), 40000);
        d.is("size 0: 17", x.moved(0, 6), -50000);
        d.terms("7 all SEE one another, 8 none SEES another;");
        d.is("all see: 15", x.moved(0, 7), -70000);
        d.is("none sees: 22", x.moved(0, 8), 0);
        x.paid(1, 0, 0);
        // Now 22 and 20: .376.
        d.is("none asked: 22 and 15", x.moved(0, 3), -39000);
        d.is("none sees: 22 and 27", x.moved(0, 8), 54600);
        d.is("all see: 15 and 20", x.moved(0, 7), -56000);
        x.lasts(2);
        x.size(1, 50);
        d.is("within LONG: 22, 27 and 20, 20", x.odds(NONE, 2), 635584);
        d.is("none asked: 22, 22 and 15, 15", x.moved(0, 3), 560431 - 635584);
        d.is("all asked: 27, 27 and 20, 20", x.moved(0, 2), 658944 - 635584);
        d.is("at the second glance too: 17, 22 and 15, 15", x.moved(0, 6), 532253 - 635584);
        d.is("nothing stays so", x.odds(NONE, 2), 635584);
    }

    /** As long as nobody went, nobody hears anybody and no friend went: these can't move ANY. */
    private static void movedByOthers(Due d) {
        SmokeRoom x = Tape.room(3, 6, "go 10 + friends * 10 + heard * 10 + stirs * 10 + gone");
        x.friends(0, 1, 1);
        x.sees(1, 1, 0);
        d.terms("0 all are FRIENDS, 1 none are;");
        d.is("all friends", x.moved(0, 0), 0);
        d.is("none", x.moved(0, 1), 0);
        d.terms("9 all HEAR one another, 10 none HEARS another.");
        d.is("all hear", x.moved(0, 9), 0);
        d.is("none hears", x.moved(0, 10), 0);
        d.is("they stay friends", x.friends(0, 1, 1), 1);
        d.is("as they were", x.friends(0, 2, 0), 0);
        d.is("it hears none, as it was", x.sees(1, 1, 0), 0);
    }

    private static void moved(Due d) {
        d.says(26, "By how much something (0 .. 10) MOVED a PLAN, by the LAW in FORCE.");
        SmokeRoom x = Tape.room(1, 1, "go 40 if size > 98 or size < 1");
        x.use(5);
        x.people(1);
        x.paid(0, 2, 0);
        d.is("from 0 to 40, by 99", x.moved(0, 5), 400000);
        d.is("from 0 to 40, by 0", x.moved(0, 6), 400000);
        d.is("the last plan is sure", x.moved(5, 5), 0);
        d.is("if none is paid, it is not", x.moved(5, 4), -1000000);
        d.is("the last something", x.moved(5, 10), 0);
        d.is("a plan without persons", x.moved(1, 5), 0);
        d.says(26, "NOTHING (-10,000,000) without.");
        d.is("11", x.moved(0, 11), NOTHING);
        d.is("-1", x.moved(0, -1), NOTHING);
        d.is("plan 6", x.moved(6, 0), NOTHING);
        d.is("plan -1", x.moved(-1, 0), NOTHING);
        for (int far : FAR) {
            d.is("a plan far off", x.moved(far, 0), NOTHING);
            d.is("something far off", x.moved(0, far), NOTHING);
        }
        x.force(NONE);
        d.is("none in force: nobody goes", x.moved(0, 5), 0);
        d.is("who is paid to goes", x.moved(5, 4), -1000000);
        d.is("no refusal", x.status(), 0);
    }

    private static void span(Due d) {
        d.says(27, "The least (most 0), the greatest (1) by which it MOVED a PLAN, of those with PERSONS.");
        SmokeRoom x = Tape.room(0, 1, "go 40 - alone * 10 + asked");
        x.use(1);
        x.people(2);
        x.sees(0, 0, 0);
        d.is("one plan, the least: from .58 to .64", x.span(7, 0), 60000);
        d.is("one plan, the greatest", x.span(7, 1), 60000);
        x.use(5);
        x.people(2);
        d.is("the last plan does not move", x.span(7, 0), 0);
        d.is("the greatest is another's", x.span(7, 1), 60000);
        d.is("none sees, the least: .64 to .51", x.span(8, 0), -130000);
        d.is("the greatest below 0: .58 to .51", x.span(8, 1), -70000);
        x.use(0);
        x.people(1);
        d.is("the first plan: alone it is already", x.span(8, 1), 0);
        d.is("all asked, the least is its: .30 to .31", x.span(2, 0), 10000);
        x.people(0);
        x.use(5);
        d.is("the last something", x.span(10, 1), 0);
        d.is("the first something", x.span(0, 0), 0);
        d.says(27, "NOTHING without.");
        d.is("11", x.span(11, 0), NOTHING);
        d.is("-1", x.span(-1, 0), NOTHING);
        d.is("most 2", x.span(7, 2), NOTHING);
        d.is("most -1", x.span(7, -1), NOTHING);
        for (int far : FAR) {
            d.is("something far off", x.span(far, 0), NOTHING);
            d.is("most far off", x.span(7, far), NOTHING);
        }
        x.force(NONE);
        d.is("none in force moves none", x.span(8, 0), 0);
        x.force(0);
        x.people(0);
        x.use(1);
        x.people(0);
        d.is("no plan with persons, the least", x.span(7, 0), NOTHING);
        d.is("no plan with persons, the greatest", x.span(7, 1), NOTHING);
        d.is("no refusal", x.status(), 0);
    }
}
