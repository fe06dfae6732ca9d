import java.math.BigInteger;

/** Edges of promises 35 to 39: TRIALS that weigh LAWS. */
final class TrialEdges {
    private static final int NONE = SmokeRoom.NONE;
    private static final int[] FAR = {Integer.MIN_VALUE, -2, 2000, Integer.MAX_VALUE};

    private TrialEdges() {
    }

    static void look(Due d) {
        trial(d);
        eightAtMost(d);
        weigh(d);
        counts(d);
        plansAsTheyAre(d);
        odds(d);
        likely(d);
        notPrinted(d);
        printed(d);
        longest(d);
        next(d);
    }

    private static SmokeRoom twoLaws() {
        SmokeRoom x = Tape.room(1, 1, "go 20");
        Tape.law(x, "go 60");
        return x;
    }

    private static void trial(Due d) {
        SmokeRoom x = twoLaws();
        d.says(35, "A TRIAL: its number. -1; -5.");
        d.refused("plan 6", x, x.trial(6, 0), -1);
        d.refused("plan -1", x, x.trial(-1, 0), -1);
        d.refused("any 2", x, x.trial(0, 2), -1);
        d.refused("any -1", x, x.trial(0, -1), -1);
        for (int far : FAR) {
            d.refused("a plan far off", x, x.trial(far, 0), -1);
            d.refused("any far off", x, x.trial(0, far), -1);
        }
        d.is("none yet", x.count(2), 0);
        d.taken("the first", x, x.trial(0, 0), 0);
        d.taken("of the last plan", x, x.trial(5, 0), 1);
        for (int t = 2; t < 8; t++) d.taken("the next", x, x.trial(0, 1), t);
        d.refused("a ninth", x, x.trial(0, 0), -5);
        d.refused("a ninth that can't be", x, x.trial(6, 0), -1);
        d.refused("nor that", x, x.trial(0, 2), -1);
        d.is("eight", x.count(2), 8);
        d.is("one by -5", x.count(8), 1);
    }

    private static void eightAtMost(Due d) {
        d.terms("IV. TRIALS, 8 at most: of a PLAN, whether ANY went within LONG (1, 0).");
        SmokeRoom x = twoLaws();
        x.lasts(2);
        for (int t = 0; t < 7; t++) x.trial(0, t % 2);
        // Within two .36 and .84: three of seven went.
        d.is("of seven", x.likely(0), share(36, 3, 64, 4, 84, 16));
        x.trial(0, 1);
        d.is("the eighth counts", x.likely(0), share(36, 4, 64, 4, 84, 16));
        x.trial(0, 1);
        d.is("a ninth does not", x.likely(0), share(36, 4, 64, 4, 84, 16));
    }

    private static int share(int went, int times, int stayed, int others, int wentBeside, int stayedBeside) {
        BigInteger own = BigInteger.valueOf(went).pow(times).multiply(BigInteger.valueOf(stayed).pow(others));
        BigInteger beside = BigInteger.valueOf(wentBeside).pow(times).multiply(BigInteger.valueOf(stayedBeside).pow(others));
        return own.multiply(BigInteger.valueOf(1000000)).divide(own.add(beside)).intValue();
    }

    private static void weigh(Due d) {
        SmokeRoom x = twoLaws();
        d.says(36, "WEIGHT of a LAW: what it was. -1; -2.");
        d.taken("1 at first, the most", x, x.weigh(0, 100), 1);
        d.taken("the least", x, x.weigh(0, 0), 100);
        d.taken("was the least", x, x.weigh(0, 5), 0);
        d.refused("101", x, x.weigh(0, 101), -1);
        d.refused("-1", x, x.weigh(0, -1), -1);
        d.refused("law 2", x, x.weigh(2, 1), -2);
        d.refused("law 4", x, x.weigh(4, 1), -2);
        d.refused("law -1", x, x.weigh(-1, 1), -2);
        d.refused("both: the first in order", x, x.weigh(2, 101), -1);
        for (int far : FAR) {
            d.refused("a weight far off", x, x.weigh(0, far), -1);
            d.refused("a law far off", x, x.weigh(far, 1), -2);
            d.refused("both far off", x, x.weigh(far, far), -1);
        }
        d.taken("it stays", x, x.weigh(0, 1), 5);
        d.taken("the other's own", x, x.weigh(1, 1), 1);
        Tape.law(x, "go 1");
        d.taken("a new one's", x, x.weigh(2, 1), 1);
    }

    private static void counts(Due d) {
        d.terms("A LAW COUNTS: its WEIGHT 0 .. 100 (1 at first) times the chance that each TRIAL went as it did,");
        SmokeRoom x = twoLaws();
        d.is("1 of 2, without trials", x.likely(0), 500000);
        x.trial(0, 1);
        d.is("20 of 80", x.likely(0), 250000);
        x.trial(0, 0);
        d.is("20 times 80 of that and 60 times 40", x.likely(0), 400000);
        x.weigh(0, 100);
        d.is("a hundred times that", x.likely(0), 985221);
        x.weigh(0, 0);
        d.is("none", x.likely(0), 0);
        d.is("so the other alone", x.likely(1), 1000000);
        x.trial(5, 0);
        d.is("that none went of none is sure", x.likely(1), 1000000);
        x.trial(5, 1);
        d.is("that one went of none can't be", x.likely(1), 0);
    }

    private static void plansAsTheyAre(Due d) {
        d.terms("by PLANS as they are now.");
        SmokeRoom x = twoLaws();
        x.trial(0, 1);
        x.people(2);
        d.is("36 of 120", x.likely(0), 300000);
        x.lasts(2);
        d.is("1 - .4096 and 1 - .0256", x.likely(0), 377300);
        x.paid(0, 2, 1);
        d.is("sure by both", x.likely(0), 500000);
        x.people(0);
        d.is("nobody left", x.likely(0), 0);
    }

    private static void odds(Due d) {
        d.terms("ODDS of a LAW: what it COUNTS through what all COUNT, in MILLIONTHS (exactly; 0 if all COUNT 0).");
        SmokeRoom x = Tape.room(1, 1, "go 10");
        d.is("all of one", x.likely(0), 1000000);
        Tape.law(x, "go 10");
        Tape.law(x, "go 10");
        d.is("a third, cut", x.likely(2), 333333);
        Tape.law(x, "go 10");
        d.is("a quarter", x.likely(3), 250000);
        for (int n = 0; n < 4; n++) x.weigh(n, n == 3 ? 100 : 99);
        d.is("99 of 397", x.likely(0), 249370);
        d.is("100 of 397", x.likely(3), 251889);
        for (int n = 0; n < 4; n++) x.weigh(n, 0);
        d.is("all are 0", x.likely(0), 0);
        x.weigh(2, 1);
        d.is("one is not", x.likely(2), 1000000);
        d.is("the others are", x.likely(3), 0);
        SmokeRoom y = Tape.room(1, 1, "go 100");
        y.trial(0, 0);
        d.is("the only one, of what can't be", y.likely(0), 0);
        // By doubles these two would be alike: 1 less than a whole of 120 digits.
        SmokeRoom z = Tape.room(5, 12, "go 99; go 98 if glance = 0 and skill = 1");
        Tape.law(z, "go 99");
        z.person(0, 2, 1);
        z.trial(0, 0);
        d.is("2 of 3", z.likely(0), 666666);
        d.is("1 of 3", z.likely(1), 333333);
        z.trial(0, 1);
        d.is("all but the same", z.likely(0), 666666);
    }

    private static void likely(Due d) {
        SmokeRoom x = twoLaws();
        d.says(37, "ODDS of a LAW. NONE.");
        d.is("the last", x.likely(1), 500000);
        d.is("2", x.likely(2), NONE);
        d.is("4", x.likely(4), NONE);
        d.is("-1", x.likely(-1), NONE);
        for (int far : FAR) d.is("far off", x.likely(far), NONE);
        d.is("no law", new SmokeRoom().likely(0), NONE);
        d.is("no refusal", x.status(), 0);
    }

    private static void notPrinted(Due d) {
        d.terms("NOT PRINTED are up to 4 more TRIALS of a PLAN: the ODDS of a LAW lie between the least and the greatest that any number"
            + " of them in which ANY went leaves.");
        SmokeRoom x = twoLaws();
        // How many of four went: 0 to 4, of 20 and 80 beside 60 and 40.
        for (int many = 0; many <= 4; many++) {
            d.is("all of " + many + " went", x.printed(0, 0, many, 0), share(20, many, 80, 0, 60, 40));
            d.is("none of " + many + " did", x.printed(0, 0, many, 1), share(20, 0, 80, many, 60, 40));
            d.is("the other way", x.printed(1, 0, many, 1), share(60, many, 40, 0, 20, 80));
        }
        x.trial(0, 1);
        d.is("beside one that was", x.printed(0, 0, 1, 0), share(20, 2, 80, 0, 60, 40));
        d.is("beside one that was, not", x.printed(0, 0, 1, 1), share(20, 1, 80, 1, 60, 40));
        SmokeRoom y = Tape.room(1, 1, "go 50");
        Tape.law(y, "go 10");
        Tape.law(y, "go 90");
        // One of two went: 25 beside 9 and 9; both or none: 25 beside 1 and 81.
        d.is("the greatest between both ends", y.printed(0, 0, 2, 1), 581395);
        d.is("the least at the ends", y.printed(0, 0, 2, 0), 233644);
        d.is("a plan without persons, one went", y.printed(0, 5, 1, 0), 0);
        d.is("none went", y.printed(0, 5, 4, 1), 333333);
    }

    private static void printed(Due d) {
        SmokeRoom x = twoLaws();
        d.says(38, "ODDS of a LAW, if so many (0 .. 4) TRIALS of a PLAN are NOT PRINTED: the least (most 0), the greatest (1).");
        d.is("none, the least", x.printed(1, 5, 0, 0), 500000);
        d.is("none, the greatest", x.printed(1, 5, 0, 1), 500000);
        d.is("four, the least", x.printed(0, 0, 4, 0), 12195);
        d.is("four, the greatest", x.printed(0, 0, 4, 1), 941176);
        d.says(38, "NONE.");
        d.is("many 5", x.printed(0, 0, 5, 0), NONE);
        d.is("many -1", x.printed(0, 0, -1, 0), NONE);
        d.is("most 2", x.printed(0, 0, 0, 2), NONE);
        d.is("most -1", x.printed(0, 0, 0, -1), NONE);
        d.is("plan 6", x.printed(0, 6, 0, 0), NONE);
        d.is("plan -1", x.printed(0, -1, 0, 0), NONE);
        d.is("law 2", x.printed(2, 0, 0, 0), NONE);
        d.is("law -1", x.printed(-1, 0, 0, 0), NONE);
        for (int far : FAR) {
            d.is("a law far off", x.printed(far, 0, 0, 0), NONE);
            d.is("a plan far off", x.printed(0, far, 0, 0), NONE);
            d.is("many far off", x.printed(0, 0, far, 0), NONE);
            d.is("most far off", x.printed(0, 0, 0, far), NONE);
        }
        d.is("no trial stays", x.count(2), 0);
        d.is("nothing stays", x.likely(0), 500000);
        for (int t = 0; t < 8; t++) x.trial(0, 1);
        d.is("four beside eight", x.printed(0, 0, 4, 0), share(20, 12, 80, 0, 60, 40));
        d.is("no refusal", x.status(), 0);
    }

    /** Twelve TRIALS of five PERSONS through twelve GLANCES under four LAWS: the longest numbers there are. */
    private static void longest(Due d) {
        d.says(38, "ODDS of a LAW, if so many (0 .. 4) TRIALS of a PLAN are NOT PRINTED: the least (most 0), the greatest (1).");
        SmokeRoom x = Tape.room(5, 12, "go 91");
        for (int n = 0; n < 3; n++) Tape.law(x, "go 9" + (2 + n));
        for (int n = 0; n < 4; n++) x.weigh(n, 100 - n);
        for (int t = 0; t < 8; t++) x.trial(0, 1);
        BigInteger all = BigInteger.ZERO;
        BigInteger own = BigInteger.ZERO;
        for (int n = 0; n < 4; n++) {
            BigInteger went = BigInteger.valueOf(100).pow(60).subtract(BigInteger.valueOf(9 - n).pow(60));
            BigInteger counts = went.pow(12).multiply(BigInteger.valueOf(100 - n));
            all = all.add(counts);
            if (n == 0) own = counts;
        }
        int due = own.multiply(BigInteger.valueOf(1000000)).divide(all).intValue();
        d.is("all twelve went: 1,442 digits", x.printed(0, 0, 4, 0), due);
        d.is("none of four did", x.printed(0, 0, 4, 1), 1000000 - 1);
    }

    private static void next(Due d) {
        SmokeRoom x = twoLaws();
        d.says(39, "The PLAN (with PERSONS) whose TRIAL would part two LAWS most: by how far MILLIONTHS of ANY within LONG are apart, of"
            + " alike ones the first (what 0); by how much (1).");
        d.is("one plan", x.next(0, 1, 0), 0);
        d.is("by", x.next(0, 1, 1), 400000);
        d.is("either way", x.next(1, 0, 1), 400000);
        x.use(5);
        x.people(2);
        d.is("the last plan: .36 and .84", x.next(0, 1, 0), 5);
        d.is("by more", x.next(1, 0, 1), 480000);
        x.use(3);
        x.people(2);
        d.is("of alike ones the first", x.next(0, 1, 0), 3);
        x.lasts(12);
        d.is("within LONG: one alone is told apart most", x.next(0, 1, 0), 0);
        d.is("by what cut millionths are apart", x.next(0, 1, 1), 68703);
        d.says(39, "NONE.");
        d.is("what 2", x.next(0, 1, 2), NONE);
        d.is("what -1", x.next(0, 1, -1), NONE);
        d.is("law 2", x.next(2, 1, 0), NONE);
        d.is("other 2", x.next(0, 2, 0), NONE);
        d.is("law -1", x.next(-1, 1, 0), NONE);
        d.is("other -1", x.next(0, -1, 0), NONE);
        for (int far : FAR) {
            d.is("a law far off", x.next(far, 1, 0), NONE);
            d.is("the other far off", x.next(0, far, 0), NONE);
            d.is("what far off", x.next(0, 1, far), NONE);
        }
        x.people(0);
        x.use(5);
        x.people(0);
        x.use(0);
        x.people(0);
        d.is("no plan with persons", x.next(0, 1, 0), NONE);
        d.is("nor by how much", x.next(0, 1, 1), NONE);
        x.use(4);
        x.people(1);
        x.paid(0, 1, 0);
        d.is("one that does not part them", x.next(0, 1, 0), 4);
        d.is("by 0", x.next(0, 1, 1), 0);
    }
}
