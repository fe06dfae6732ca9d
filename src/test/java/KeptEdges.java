/** Edges of promises 45 to 48: IMAGES, counts, what was REFUSED. */
final class KeptEdges {
    private static final int NONE = SmokeRoom.NONE;
    private static final int[] FAR = {Integer.MIN_VALUE, -2, 2000, Integer.MAX_VALUE};

    private KeptEdges() {
    }

    static void look(Due d) {
        image(d);
        back(d);
        keepsPlans(d);
        keepsOthers(d);
        keepsFull(d);
        doesNotKeep(d);
        firstInOrder(d);
        count(d);
        countRefused(d);
        status(d);
        statusOfOthers(d);
    }

    private static void image(Due d) {
        SmokeRoom x = new SmokeRoom();
        d.says(45, "IMAGE k is kept: 0; -1.");
        d.taken("the first", x, x.image(0), 0);
        d.taken("the last", x, x.image(1), 0);
        d.taken("once more", x, x.image(1), 0);
        d.refused("2", x, x.image(2), -1);
        d.refused("-1", x, x.image(-1), -1);
        for (int far : FAR) d.refused("far off", x, x.image(far), -1);
    }

    private static void back(Due d) {
        SmokeRoom x = new SmokeRoom();
        d.says(46, "BACK to IMAGE k: 0. -1; -2 it was not kept.");
        d.refused("the first, not kept", x, x.back(0), -2);
        d.refused("the last, not kept", x, x.back(1), -2);
        d.refused("2", x, x.back(2), -1);
        d.refused("-1", x, x.back(-1), -1);
        for (int far : FAR) d.refused("far off", x, x.back(far), -1);
        x.people(2);
        x.image(1);
        x.people(3);
        d.refused("the other is not kept", x, x.back(0), -2);
        d.is("so nothing comes back", x.count(0), 3);
        d.taken("back", x, x.back(1), 0);
        d.is("as it was then", x.count(0), 2);
        x.people(4);
        d.taken("images stay", x, x.back(1), 0);
        d.is("as it was then, again", x.count(0), 2);
        x.people(5);
        x.image(1);
        x.people(0);
        x.back(1);
        d.is("the newer one", x.count(0), 5);
        d.refused("an image keeps no images", x, x.back(0), -2);
    }

    private static void fillPlans(SmokeRoom x, int n) {
        for (int plan = 0; plan < 6; plan++) {
            x.use(plan);
            x.people(5 - n);
            for (int p = 0; p < 5; p++) {
                x.paid(p, (plan + p + n) % 3, (plan + p + n) % 3 == 2 ? p + n : 0);
                x.sees(p, 0, plan * 5 + p + n);
                x.sees(p, 1, 30 - plan * 5 - p + n);
                x.ask(p, plan + p + n);
            }
        }
        x.use(4 + n);
    }

    /** All of one state is told, kept, told otherwise and gone back to. */
    private static void keepsPlans(Due d) {
        d.terms("IMAGES 0, 1 keep all but the TAPE, FAULT, the latest WORLD; BACK to one all that it keeps is as it was then (IMAGES stay).");
        SmokeRoom x = new SmokeRoom();
        fillPlans(x, 0);
        x.image(0);
        fillPlans(x, 1);
        x.back(0);
        d.is("in use", x.count(10), 4);
        for (int plan = 0; plan < 6; plan++) {
            x.use(plan);
            d.is("persons", x.count(0), 5);
            x.run(0);
            for (int p = 0; p < 5; p++) {
                d.is("paid to go at", x.went(p), (plan + p) % 3 == 2 ? p : NONE);
                d.is("paid", x.paid(p, 0, 0), (plan + p) % 3);
                d.is("sees", x.sees(p, 0, 0), plan * 5 + p);
                d.is("hears", x.sees(p, 1, 0), 30 - plan * 5 - p);
                d.is("asked", x.ask(p, NONE), plan + p);
            }
        }
    }

    private static void fillOthers(SmokeRoom x, int n) {
        for (int p = 0; p < 5; p++) {
            for (int what = 0; what < 3; what++) x.person(p, what, (p + what) % 5 + n);
            x.friends(p, (p + 1) % 5, 1 - n);
            x.friends(p, (p + 2) % 5, n);
        }
        for (int g = 0; g < 12; g++) x.size(g, 3 * g + n);
        x.lasts(12 - n);
    }

    private static void keepsOthers(Due d) {
        d.terms("IMAGES 0, 1 keep all but the TAPE, FAULT, the latest WORLD; BACK to one all that it keeps is as it was then (IMAGES stay).");
        SmokeRoom x = new SmokeRoom();
        fillOthers(x, 0);
        x.image(0);
        fillOthers(x, 1);
        x.back(0);
        d.is("lasts", x.lasts(12), 12);
        for (int g = 0; g < 12; g++) d.is("size", x.size(g, 0), 3 * g);
        for (int p = 0; p < 5; p++) {
            for (int what = 0; what < 3; what++) d.is("of a person", x.person(p, what, 0), (p + what) % 5);
            d.is("friends", x.friends(p, (p + 1) % 5, 1), 1);
            d.is("no friends", x.friends(p, (p + 2) % 5, 0), 0);
        }
    }

    /** As full as can be: four LAWS, eight TRIALS, forty STREETS and WINDOWS, beside an empty one. */
    private static void keepsFull(Due d) {
        d.terms("IMAGES 0, 1 keep all but the TAPE, FAULT, the latest WORLD; BACK to one all that it keeps is as it was then (IMAGES stay).");
        SmokeRoom x = new SmokeRoom();
        x.people(1);
        x.lasts(1);
        x.image(0);
        for (int n = 0; n < 4; n++) {
            Tape.law(x, "go 1" + n + "; hold " + n);
            x.weigh(n, 10 + n);
        }
        x.force(3);
        for (int t = 0; t < 8; t++) x.trial(0, t / 7);
        for (int s = 0; s < 40; s++) x.street(s % 8, s + 1, s / 20);
        for (int w = 0; w < 40; w++) x.window(w % 10, w / 20, w % 2);
        int likely = x.likely(2);
        x.image(1);
        x.back(0);
        for (int what = 1; what <= 4; what++) d.is("empty", x.count(what), 0);
        d.is("none in force", x.count(11), NONE);
        for (int n = 0; n < 4; n++) Tape.law(x, "hold 50; hold 40; go 9" + n);
        for (int t = 0; t < 8; t++) x.trial(1, 1);
        for (int s = 0; s < 40; s++) x.street(7, 99, 1);
        for (int w = 0; w < 40; w++) x.window(0, 1, 1);
        x.back(1);
        int[] full = {1, 4, 8, 40, 40};
        for (int what = 0; what <= 4; what++) d.is("full", x.count(what), full[what]);
        d.is("in force", x.count(11), 3);
        d.is("what the trials tell", x.likely(2), likely);
        d.is("how many people", x.streets(0, 0, 2) + x.streets(0, 1, 2), 820);
        d.is("how many helped", x.streets(2, 0, 1) + x.streets(2, 1, 1), 20);
        d.is("with the last thing", x.streets(2, 1, 0), 20);
        d.is("what the windows tell", x.tale(4, 9, 20, 20), 0);
        for (int n = 0; n < 4; n++) {
            x.force(n);
            d.is("law " + n, x.chance(0, 0, 0, 0), 10);
            d.is("reasons", x.reasons(n), 1);
            d.is("weight", x.weigh(n, 1), 10 + n);
        }
        d.refused("full of laws", x, Tape.law(x, "go 1"), -5);
    }

    private static void doesNotKeep(Due d) {
        d.terms("IMAGES 0, 1 keep all but the TAPE, FAULT, the latest WORLD;");
        SmokeRoom x = Tape.room(1, 6, "go 100");
        x.image(0);
        Tape.law(x, "go 1 x");
        Tape.put(x, "hold");
        x.paid(0, 2, 4);
        x.run(0);
        x.use(9);
        int refused = x.count(6);
        x.back(0);
        d.is("tape", x.count(5), 4);
        d.is("fault", x.fault(), 5);
        d.is("world", x.went(0), 4);
        d.is("what was refused", x.count(6), refused);
        d.is("paid", x.paid(0, 0, 0), 0);
    }

    private static void firstInOrder(Due d) {
        d.terms("REFUSED by: -1 a number that can't be; -2 there is no such LAW, IMAGE; -5 no room; -6 a TEXT, a ROW that can't be."
            + " The first of these in that order.");
        SmokeRoom x = new SmokeRoom();
        d.refused("-1 ahead of -2", x, x.weigh(0, 101), -1);
        d.refused("-2 alone", x, x.weigh(0, 100), -2);
        d.refused("-2 of an image", x, x.back(0), -2);
        for (int n = 0; n < 4; n++) Tape.law(x, "go 1");
        for (int t = 0; t < 8; t++) x.trial(0, 0);
        for (int s = 0; s < 40; s++) x.street(0, 1, 0);
        for (int w = 0; w < 40; w++) x.window(0, 0, 0);
        d.refused("-1 ahead of -5, a trial", x, x.trial(0, -1), -1);
        d.refused("-1 ahead of -5, a street", x, x.street(0, 0, 0), -1);
        d.refused("-1 ahead of -5, a window", x, x.window(0, 0, -1), -1);
        d.refused("-5, a trial", x, x.trial(0, 0), -5);
        d.refused("-5, a street", x, x.street(0, 1, 0), -5);
        d.refused("-5, a window", x, x.window(0, 0, 0), -5);
        d.refused("-5 ahead of -6", x, Tape.law(x, "x"), -5);
        d.refused("-6", x, x.row(), -6);
    }

    private static void count(Due d) {
        SmokeRoom x = new SmokeRoom();
        d.says(47, "0 PERSONS of the PLAN in USE, 1 LAWS, 2 TRIALS, 3 STREETS, 4 WINDOWS, 5 bytes of the TAPE,");
        for (int what = 0; what <= 10; what++) d.is("none at first", x.count(what), 0);
        x.people(5);
        for (int n = 0; n < 4; n++) Tape.law(x, "go 1");
        for (int t = 0; t < 3; t++) x.trial(0, 0);
        for (int s = 0; s < 7; s++) x.street(0, 1, 0);
        for (int w = 0; w < 9; w++) x.window(0, 0, 0);
        Tape.put(x, "0123456789");
        int[] due = {5, 4, 3, 7, 9, 10};
        for (int what = 0; what < 6; what++) d.is("count " + what, x.count(what), due[what]);
        d.says(47, "10 the PLAN in USE, 11 the LAW in FORCE. NONE for others.");
        d.is("none in force", x.count(11), NONE);
        x.use(5);
        x.force(3);
        d.is("the last plan", x.count(10), 5);
        d.is("without persons", x.count(0), 0);
        d.is("the last law", x.count(11), 3);
        d.is("12", x.count(12), NONE);
        d.is("-1", x.count(-1), NONE);
        for (int far : FAR) d.is("far off", x.count(far), NONE);
    }

    private static void countRefused(Due d) {
        SmokeRoom x = new SmokeRoom();
        d.says(47, "6 .. 9 how many calls were REFUSED by -1, -2, -5, -6 (IMAGES do not keep that),");
        x.image(0);
        for (int i = 0; i < 5; i++) x.use(6);
        for (int i = 0; i < 4; i++) x.force(0);
        for (int i = 0; i < 3; i++) x.row();
        x.law();
        for (int t = 0; t < 10; t++) x.trial(0, 0);
        int[] due = {5, 4, 2, 4};
        for (int k = 0; k < 4; k++) d.is("by " + k, x.count(6 + k), due[k]);
        x.image(1);
        x.use(6);
        x.back(0);
        d.is("back", x.count(6), 6);
        x.back(1);
        d.is("back to the other", x.count(6), 6);
        x.odds(NONE, 99);
        x.feed(0, 0, 0, 0, 0);
        x.end(99);
        x.held(9, 9);
        x.worlds(0, 0);
        d.is("what answers NONE or NOTHING is not refused", x.count(6), 6);
        d.is("by -2 as before", x.count(7), 4);
        d.is("by -5 as before", x.count(8), 2);
        d.is("by -6 as before", x.count(9), 4);
    }

    /** Each call once as it may be and once as it can't: what status tells behind it. */
    private static void status(Due d) {
        SmokeRoom x = new SmokeRoom();
        d.says(48, "What the latest call of use, people, person, paid, sees, ask, friends, lasts, size, row, law, force, run, trial, weigh,"
            + " street, window, image, back was REFUSED by; 0 if it was not,");
        refuseAndTake(d, x, x.use(6), -1, "use", () -> x.use(0));
        refuseAndTake(d, x, x.people(6), -1, "people", () -> x.people(1));
        refuseAndTake(d, x, x.person(0, 0, 8), -1, "person", () -> x.person(0, 0, 7));
        refuseAndTake(d, x, x.paid(0, 3, 0), -1, "paid", () -> x.paid(0, 0, 0));
        refuseAndTake(d, x, x.sees(0, 0, 32), -1, "sees", () -> x.sees(0, 0, 31));
        refuseAndTake(d, x, x.ask(0, 12), -1, "ask", () -> x.ask(0, NONE));
        refuseAndTake(d, x, x.friends(1, 1, 1), -1, "friends", () -> x.friends(0, 1, 1));
        refuseAndTake(d, x, x.lasts(0), -1, "lasts", () -> x.lasts(6));
        refuseAndTake(d, x, x.size(0, 100), -1, "size", () -> x.size(0, 99));
        refuseAndTake(d, x, x.row(), -6, "row", () -> {
            x.feed(1, 2, 3, 4, 5);
            x.row();
        });
        refuseAndTake(d, x, x.law(), -6, "law", () -> Tape.law(x, "go 1"));
        refuseAndTake(d, x, x.force(1), -2, "force", () -> x.force(NONE));
        refuseAndTake(d, x, x.run(-1), -1, "run", () -> x.run(0));
        refuseAndTake(d, x, x.trial(6, 0), -1, "trial", () -> x.trial(5, 0));
        refuseAndTake(d, x, x.weigh(1, 1), -2, "weigh", () -> x.weigh(0, 1));
        refuseAndTake(d, x, x.street(8, 1, 0), -1, "street", () -> x.street(7, 1, 0));
        refuseAndTake(d, x, x.window(10, 0, 0), -1, "window", () -> x.window(9, 0, 0));
        refuseAndTake(d, x, x.back(0), -2, "back", () -> {
            x.image(0);
            x.use(6);
            x.back(0);
        });
        refuseAndTake(d, x, x.image(2), -1, "image", () -> x.image(1));
    }

    private static void refuseAndTake(Due d, SmokeRoom x, int got, int by, String what, Runnable taken) {
        d.is(what + " refused", got, by);
        d.is(what + " refused, status", x.status(), by);
        d.is("asked once more", x.status(), by);
        taken.run();
        d.is(what + " taken, status", x.status(), 0);
    }

    private static void statusOfOthers(Due d) {
        d.says(48, "or ahead of any.");
        d.is("of a new object", new SmokeRoom().status(), 0);
        SmokeRoom x = Tape.room(2, 3, "go 50; hold 1");
        for (int by = 0; by > -3; by--) {
            if (by == 0) x.force(0);
            if (by == -1) x.use(6);
            if (by == -2) x.force(9);
            askAll(x, 0);
            d.is("what is only asked does not change it", x.status(), by);
            askAll(x, 99);
            d.is("nor what is asked wrongly", x.status(), by);
        }
    }

    private static void askAll(SmokeRoom x, int n) {
        x.feed(n, n, n, n, n);
        x.end(n);
        x.fault();
        x.reasons(n);
        x.chance(n, n, n, n);
        x.odds(n, n);
        x.digits(n, n, n);
        x.alone(n, n);
        x.held(n, n);
        x.parts(n, n, n);
        x.gentle(n, n, n, n);
        x.fright(n);
        x.moved(n, n);
        x.span(n, n);
        x.crowd(n, n);
        x.sooner(n, n);
        x.words(n);
        x.few();
        x.went(n);
        x.worlds(n + 1, n);
        x.likely(n);
        x.printed(n, n, n, n);
        x.next(n, n, n);
        x.streets(n, n, n);
        x.differs();
        x.tale(n, n, n, n);
        x.count(n);
    }
}
