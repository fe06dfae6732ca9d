import java.math.BigInteger;

/** Edges of promises 19 to 21 and 28 to 31 and of Terms III: exact chances, what is asked of them. */
final class ChanceEdges {
    private static final int NONE = SmokeRoom.NONE;
    private static final int[] FAR = {Integer.MIN_VALUE, -2, 2000000, Integer.MAX_VALUE};

    private ChanceEdges() {
    }

    static void look(Due d) {
        allAtOnce(d);
        anyAndEach(d);
        chain(d);
        bySets(d);
        longest(d);
        cut(d);
        odds(d);
        digits(d);
        aloneAndLine(d);
        alone(d);
        crowd(d);
        sooner(d);
        words(d);
        fewestWords(d);
        few(d);
    }

    private static void allAtOnce(Due d) {
        d.terms("III. All who sit at a GLANCE go, or not, by their CHANCES, each for itself.");
        SmokeRoom x = Tape.room(2, 3, "go 100 if stirs + gone = 0 and skill = 0; go 50 if stirs = 1");
        d.is("both at once, none sees the other stir", x.odds(1, 1), 1000000);
        x.person(1, 2, 1);
        d.is("the other not at once", x.odds(1, 1), 0);
        d.is("but at the next glance", x.odds(1, 2), 500000);
        d.is("and at that alone", x.odds(1, 3), 500000);
    }

    private static void anyAndEach(Due d) {
        d.terms("By all that can be, exactly: ANY: one at least went within so many GLANCES; EACH: a PERSON did.");
        SmokeRoom x = Tape.room(2, 3, "go 10 + stirs * 40 + gone * 20");
        d.is("any in none", x.odds(NONE, 0), 0);
        d.is("each in none", x.odds(0, 0), 0);
        d.is("any in 3: 1 - .81 * .81 * .81", x.odds(NONE, 3), 468559);
        // The other one goes at 0: .1 * .9 * .5 * .7; at 1: .9 * .1 * .9 * .9 * .5; later: .81 * .9 * .9 * .9.
        d.is("each in 3: 1 - .0315 - .03645 - .59049", x.odds(0, 3), 341560);
        d.is("the other one alike", x.odds(1, 3), 341560);
        d.is("exactly, the lower digits", x.digits(0, 3, 0), 560000000);
        d.is("exactly, the upper digits", x.digits(0, 3, 1), 341);
    }

    /** Each waits until just so many went as its KIND says: that one of KIND 4 went needs five of twelve. */
    private static void chain(Due d) {
        d.terms("By all that can be, exactly: ANY: one at least went within so many GLANCES; EACH: a PERSON did.");
        for (int turn = 0; turn < 5; turn++) {
            SmokeRoom x = Tape.room(5, 12, "go 50 if stirs + gone = kind");
            for (int p = 0; p < 5; p++) x.person(p, 0, (p * (turn < 3 ? 1 : 2) + turn) % 5);
            for (int p = 0; p < 5; p++) {
                int kind = (p * (turn < 3 ? 1 : 2) + turn) % 5;
                d.is("not within " + kind, x.odds(p, kind), 0);
                d.is("within one more", x.odds(p, kind + 1), 1000000 >> kind + 1);
                d.is("within twelve", x.odds(p, 12), atLeast(kind + 1));
                if (kind == 4) d.is("1651 of 2048", x.digits(p, 12, 13), 806);
                if (kind == 4) d.is("its lower digits", x.digits(p, 12, 12), 152343750);
                if (kind == 4) d.is("and no more", x.digits(p, 12, 11), 0);
            }
            d.is("any", x.odds(NONE, 12), atLeast(1));
        }
    }

    /** The others go by 50 at GLANCE 0 alone; how many of them it SEES STIR, then GONE, moves the last one. */
    private static void bySets(Due d) {
        d.terms("By all that can be, exactly: ANY: one at least went within so many GLANCES; EACH: a PERSON did.");
        int[] due = {0, 140000, 270000, 390000, 500000};
        for (int who = 0; who < 5; who++) {
            SmokeRoom x = Tape.room(5, 3, "go 50 if kind = 0 and glance = 0; go 10 * stirs + 20 * gone if kind = 1");
            x.person(who, 0, 1);
            for (int others = 0; others < 32; others++) {
                x.sees(who, 0, others);
                int seen = Integer.bitCount(others & ~(1 << who));
                d.is(who + " sees " + others, x.odds(who, 3), due[seen]);
            }
        }
    }

    /** MILLIONTHS of at least so many heads of twelve tosses. */
    private static int atLeast(int heads) {
        int ways = 0;
        for (int tosses = 0; tosses < 4096; tosses++) ways += Integer.bitCount(tosses) >= heads ? 1 : 0;
        return (int) (ways * 1000000L / 4096);
    }

    private static void longest(Due d) {
        d.terms("An exact chance by n PERSONS within t GLANCES is a number of 100 multiplied n times t times by itself.");
        for (int n = 1; n <= 5; n++) {
            SmokeRoom x = Tape.room(n, 12, "go 100");
            for (int t = 1; t <= 12; t++) {
                int zeros = 2 * n * t;
                BigInteger ten = BigInteger.TEN.pow(zeros % 9);
                d.is("sure, any", x.digits(NONE, t, zeros / 9), ten.intValue());
                d.is("sure, each", x.digits(n - 1, t, zeros / 9), ten.intValue());
                d.is("nothing below", x.digits(NONE, t, 0), zeros < 9 ? ten.intValue() : 0);
            }
            d.is("in none, 1 of 1 is not", x.digits(NONE, 0, 0), 0);
        }
        SmokeRoom x = Tape.room(5, 12, "go 37");
        BigInteger any = BigInteger.valueOf(100).pow(60).subtract(BigInteger.valueOf(63).pow(60));
        BigInteger each = BigInteger.valueOf(100).pow(60)
            .subtract(BigInteger.valueOf(63).pow(12).multiply(BigInteger.valueOf(100).pow(48)));
        BigInteger billion = BigInteger.TEN.pow(9);
        for (int k = 0; k <= 14; k++) {
            d.is("any, digits " + k, x.digits(NONE, 12, k), any.divide(billion.pow(k)).mod(billion).intValue());
            d.is("each, digits " + k, x.digits(2, 12, k), each.divide(billion.pow(k)).mod(billion).intValue());
        }
    }

    private static void cut(Due d) {
        d.terms("MILLIONTHS of a chance are cut.");
        SmokeRoom x = Tape.room(1, 12, "go 1");
        d.is(".01", x.odds(NONE, 1), 10000);
        d.is(".0199", x.odds(NONE, 2), 19900);
        d.is(".029701", x.odds(NONE, 3), 29701);
        d.is(".03940399", x.odds(NONE, 4), 39403);
        d.is("of each, too", x.odds(0, 4), 39403);
        d.is("of alone, too", x.alone(0, 4), 39403);
        d.is("all but sure", Tape.room(5, 12, "go 99").odds(NONE, 12), 999999);
        d.is("all but sure, each", Tape.room(5, 12, "go 99").odds(0, 12), 999999);
        d.is("sure", Tape.room(5, 12, "go 100").odds(0, 12), 1000000);
        SmokeRoom y = Tape.room(3, 1, "go 99");
        d.is(".999999", y.odds(NONE, 1), 999999);
        y.people(4);
        d.is(".99999999", y.odds(NONE, 1), 999999);
    }

    private static void odds(Due d) {
        SmokeRoom x = Tape.room(2, 3, "go 50");
        d.says(19, "MILLIONTHS of ANY (person NONE), EACH within so many GLANCES (0 .. LONG).");
        d.is("any in 0", x.odds(NONE, 0), 0);
        d.is("any in 3", x.odds(NONE, 3), 984375);
        d.is("each in 3", x.odds(1, 3), 875000);
        d.is("any in 4", x.odds(NONE, 4), NONE);
        d.is("each in 4", x.odds(1, 4), NONE);
        d.is("any in -1", x.odds(NONE, -1), NONE);
        d.is("each in -1", x.odds(1, -1), NONE);
        x.lasts(12);
        d.is("any in 12", x.odds(NONE, 12), 999999);
        d.is("each in 12", x.odds(1, 12), 999755);
        d.is("each in 13", x.odds(1, 13), NONE);
        x.lasts(1);
        d.is("any in 1", x.odds(NONE, 1), 750000);
        d.is("any in 2", x.odds(NONE, 2), NONE);
        for (int far : FAR) {
            d.is("glances far off", x.odds(NONE, far), NONE);
            d.is("a person far off", x.odds(far, 1), NONE);
        }
        d.says(19, "NONE (PERSONS not there, too; without PERSONS ANY is 0).");
        d.is("not there", x.odds(2, 1), NONE);
        d.is("not there, in 0", x.odds(2, 0), NONE);
        d.is("person 5", x.odds(5, 1), NONE);
        d.is("person -2", x.odds(-2, 1), NONE);
        x.use(1);
        d.is("without persons", x.odds(NONE, 1), 0);
        d.is("without persons in 0", x.odds(NONE, 0), 0);
        d.is("without persons in 2", x.odds(NONE, 2), NONE);
        d.is("without persons each", x.odds(0, 1), NONE);
        d.is("no refusal", x.status(), 0);
    }

    private static void digits(Due d) {
        SmokeRoom x = Tape.room(2, 3, "go 50");
        d.says(20, "The exact chance likewise: its upper number, nine digits of it from the (9 k)-th on (k 0 .. 14, the lowest first).");
        d.is("984375000000, the lowest", x.digits(NONE, 3, 0), 375000000);
        d.is("984375000000, the next", x.digits(NONE, 3, 1), 984);
        d.is("of each 875000000000", x.digits(1, 3, 1), 875);
        d.is("the last", x.digits(NONE, 3, 14), 0);
        d.is("in 0", x.digits(NONE, 0, 0), 0);
        d.says(20, "NONE.");
        d.is("k 15", x.digits(NONE, 3, 15), NONE);
        d.is("k -1", x.digits(NONE, 3, -1), NONE);
        d.is("in 4", x.digits(NONE, 4, 0), NONE);
        d.is("in -1", x.digits(NONE, -1, 0), NONE);
        d.is("not there", x.digits(2, 3, 0), NONE);
        d.is("person 5", x.digits(5, 3, 0), NONE);
        d.is("person -2", x.digits(-2, 3, 0), NONE);
        for (int far : FAR) {
            d.is("k far off", x.digits(NONE, 3, far), NONE);
            d.is("glances far off", x.digits(NONE, far, 0), NONE);
            d.is("a person far off", x.digits(far, 3, 0), NONE);
        }
        x.use(1);
        for (int k = 0; k < 15; k++) d.is("without persons", x.digits(NONE, 3, k), 0);
        d.is("without persons each", x.digits(0, 3, 0), NONE);
        d.is("without persons k 15", x.digits(NONE, 3, 15), NONE);
    }

    private static void aloneAndLine(Due d) {
        d.terms("ALONE: the chance that a PERSON goes within so many, if it alone is in the room (as it is otherwise; it SEES, HEARS"
            + " none).");
        SmokeRoom x = Tape.room(3, 2, "go 10 + still * 7 + alone * 20 + asked * 30 + heard + size / 10 * 2; hold kind");
        x.person(1, 0, 2);
        x.ask(1, 1);
        x.paid(2, 2, 1);
        d.is("32", x.alone(0, 1), 320000);
        d.is("32, then 34", x.alone(0, 2), 551200);
        d.is("30, then asked 62", x.alone(1, 2), 734000);
        d.is("paid, not ahead", x.alone(2, 1), 0);
        d.is("paid, then", x.alone(2, 2), 1000000);
        d.terms("LINE: that one at least goes of all PERSONS of the PLAN, each as ALONE would.");
        d.is("1 - .68 * .7", x.alone(NONE, 1), 524000);
        d.is("sure", x.alone(NONE, 2), 1000000);
        x.people(2);
        d.is("1 - .4488 * .266", x.alone(NONE, 2), 880619);
        x.people(1);
        d.is("of one", x.alone(NONE, 2), 551200);
        x.people(5);
        x.paid(2, 0, 0);
        d.is("1 - .68 * .7 * .68 * .68 * .68", x.alone(NONE, 1), 850330);
    }

    private static void alone(Due d) {
        SmokeRoom x = Tape.room(2, 3, "go 50 * alone");
        d.says(21, "MILLIONTHS of ALONE (person), LINE (NONE) within so many GLANCES. NONE.");
        d.is("alone in 0", x.alone(1, 0), 0);
        d.is("line in 0", x.alone(NONE, 0), 0);
        d.is("alone in 3", x.alone(1, 3), 875000);
        d.is("line in 3", x.alone(NONE, 3), 984375);
        d.is("nobody goes of two who see one another", x.odds(NONE, 3), 0);
        d.is("alone in 4", x.alone(1, 4), NONE);
        d.is("line in 4", x.alone(NONE, 4), NONE);
        d.is("alone in -1", x.alone(1, -1), NONE);
        d.is("line in -1", x.alone(NONE, -1), NONE);
        d.is("not there", x.alone(2, 3), NONE);
        d.is("person 5", x.alone(5, 3), NONE);
        d.is("person -2", x.alone(-2, 3), NONE);
        for (int far : FAR) {
            d.is("glances far off", x.alone(0, far), NONE);
            d.is("a person far off", x.alone(far, 0), NONE);
        }
        x.use(1);
        d.is("line without persons", x.alone(NONE, 3), 0);
        d.is("alone without persons", x.alone(0, 3), NONE);
        d.is("line without persons in 4", x.alone(NONE, 4), NONE);
    }

    private static void crowd(Due d) {
        d.says(28, "Whether ANY (person NONE; EACH) within so many GLANCES is less than LINE (ALONE): 0, the same: 1, more: 2, by the"
            + " exact chances.");
        String less = "go 99; go 98 if still > 0 and glance = 11 and skill = 1";
        String more = "go 98; go 99 if still > 0 and glance = 11 and skill = 1";
        String[] laws = {less, "go 99", more};
        for (int due = 0; due < 3; due++) {
            SmokeRoom x = Tape.room(5, 12, laws[due]);
            x.person(4, 2, 1);
            d.is("by the last of 120 digits, any", x.crowd(NONE, 12), due);
            d.is("each", x.crowd(4, 12), due);
            d.is("the millionths do not tell", x.odds(4, 12), x.alone(4, 12));
            d.is("one of whom it is not said", x.crowd(0, 12), 1);
            d.is("ahead of it the same", x.crowd(NONE, 11), 1);
            d.is("in 0", x.crowd(NONE, 0), 1);
            d.is("each in 0", x.crowd(4, 0), 1);
        }
        SmokeRoom none = Tape.room(2, 3, "go 50 * alone");
        d.is("nobody beside many, any", none.crowd(NONE, 3), 0);
        d.is("nobody beside many, each", none.crowd(1, 3), 0);
        SmokeRoom all = Tape.room(2, 3, "go 50 * [1 - alone]");
        d.is("many beside nobody, any", all.crowd(NONE, 3), 2);
        d.is("many beside nobody, each", all.crowd(1, 3), 2);
        SmokeRoom sure = Tape.room(5, 12, "go 99; go 100 if alone = 1 and glance = 11");
        d.is("all but sure beside sure, any", sure.crowd(NONE, 12), 0);
        d.is("all but sure beside sure, each", sure.crowd(0, 12), 0);
        d.is("nobody beside nobody", Tape.room(2, 3, "go 0").crowd(NONE, 3), 1);
        d.is("sure beside sure", Tape.room(2, 3, "go 100").crowd(NONE, 3), 1);
        d.says(28, "NONE.");
        SmokeRoom x = Tape.room(2, 3, "go 50");
        d.is("any in 4", x.crowd(NONE, 4), NONE);
        d.is("any in -1", x.crowd(NONE, -1), NONE);
        d.is("not there", x.crowd(2, 3), NONE);
        d.is("person 5", x.crowd(5, 3), NONE);
        d.is("person -2", x.crowd(-2, 3), NONE);
        for (int far : FAR) {
            d.is("glances far off", x.crowd(NONE, far), NONE);
            d.is("a person far off", x.crowd(far, 3), NONE);
        }
        x.use(1);
        d.is("without persons both are 0", x.crowd(NONE, 3), 1);
        d.is("without persons each", x.crowd(0, 3), NONE);
    }

    private static void sooner(Due d) {
        d.says(29, "The fewest GLANCES (0 .. LONG) within which ANY (person NONE; EACH) is so many MILLIONTHS (0 .. 1,000,000) at least.");
        SmokeRoom x = Tape.room(2, 3, "go 50 * glance");
        d.is("nothing, in none", x.sooner(NONE, 0), 0);
        d.is("each, nothing", x.sooner(1, 0), 0);
        d.is("1", x.sooner(NONE, 1), 2);
        d.is("just so many", x.sooner(NONE, 750000), 2);
        d.is("one more", x.sooner(NONE, 750001), 3);
        d.is("sure, at the last glance", x.sooner(NONE, 1000000), 3);
        d.is("each, just so many", x.sooner(1, 500000), 2);
        d.is("each, one more", x.sooner(1, 500001), 3);
        d.is("each, sure", x.sooner(1, 1000000), 3);
        d.says(29, "NONE.");
        d.is("more than can be", x.sooner(NONE, 1000001), NONE);
        d.is("below 0", x.sooner(NONE, -1), NONE);
        d.is("not there", x.sooner(2, 0), NONE);
        d.is("person 5", x.sooner(5, 0), NONE);
        d.is("person -2", x.sooner(-2, 0), NONE);
        for (int far : FAR) {
            d.is("millionths far off", x.sooner(NONE, far), NONE);
            d.is("a person far off", x.sooner(far, 0), NONE);
        }
        x.lasts(2);
        d.is("not within LONG", x.sooner(NONE, 750001), NONE);
        d.is("within LONG", x.sooner(NONE, 750000), 2);
        x.lasts(1);
        d.is("never", x.sooner(NONE, 1), NONE);
        x.use(1);
        d.is("without persons nothing", x.sooner(NONE, 0), 0);
        d.is("without persons one", x.sooner(NONE, 1), NONE);
        d.is("without persons each", x.sooner(0, 0), NONE);
        SmokeRoom y = Tape.room(5, 12, "go 100 * glance / 11");
        d.is("at the last of twelve, each", y.sooner(4, 1000000), 12);
    }

    private static void words(Due d) {
        SmokeRoom x = Tape.room(3, 1, "go 10 + asked * 20");
        d.says(30, "WORDS for so many MILLIONTHS (0 .. 1,000,000): PERSONS as bits; NONE: none do.");
        d.is("nothing needs none", x.words(0), 0);
        d.is("as it is", x.words(271000), 0);
        d.is("one more", x.words(271001), 1);
        d.is("1 - .7 * .9 * .9", x.words(433000), 1);
        d.is("one more than one does", x.words(433001), 3);
        d.is("1 - .7 * .7 * .9", x.words(559000), 3);
        d.is("all", x.words(559001), 7);
        d.is("1 - .343", x.words(657000), 7);
        d.is("none do", x.words(657001), NONE);
        d.is("nor for all", x.words(1000000), NONE);
        d.is("more than can be", x.words(1000001), NONE);
        d.is("below 0", x.words(-1), NONE);
        for (int far : FAR) d.is("far off", x.words(far), NONE);
        d.is("nobody stays asked", x.odds(NONE, 1), 271000);
        d.is("sure", Tape.room(2, 1, "go 100 * asked").words(1000000), 1);
        d.is("without persons nothing", new SmokeRoom().words(0), 0);
        d.is("without persons one", new SmokeRoom().words(1), NONE);
    }

    private static void fewestWords(Due d) {
        d.terms("WORDS: the fewest PERSONS, who if ASKED from GLANCE 0 on make ANY within LONG at least so many MILLIONTHS; of alike"
            + " ones the lowest bits as a number.");
        SmokeRoom x = Tape.room(5, 1, "go asked * skill * 10");
        int[] skills = {1, 1, 1, 4, 4};
        for (int p = 0; p < 5; p++) x.person(p, 2, skills[p]);
        d.is("the first of five", x.words(100000), 1);
        d.is("two alike, the lower", x.words(400000), 8);
        d.is("one of three and the lower of two", x.words(400001), 9);
        d.is("both, though three are a lower number", x.words(640000), 24);
        d.is("both and the first", x.words(640001), 25);
        d.is("all but one", x.words(708400), 27);
        d.is("all", x.words(708401), 31);
        d.is("all, just so many", x.words(737560), 31);
        d.is("more than all", x.words(737561), NONE);
        x.lasts(2);
        d.is("within LONG", x.words(640000), 8);
        x.ask(4, 1);
        d.is("one is asked already, later", x.words(400000), 0);
        d.is("one more", x.words(400001), 1);
        x.people(4);
        d.is("who is not there does not count", x.words(400000), 8);
        SmokeRoom y = Tape.room(2, 1, "go 50 - asked * 20");
        y.ask(0, 0);
        d.is("who is asked stays so", y.words(650001), NONE);
        d.is("as it is", y.words(650000), 0);
        SmokeRoom z = Tape.room(1, 2, "go asked * 50");
        z.ask(0, 1);
        d.is("from glance 1 on, as it is", z.words(500000), 0);
        d.is("from glance 0 on", z.words(750000), 1);
        d.is("and no sooner", z.words(750001), NONE);
    }

    private static void few(Due d) {
        d.terms("FEW: of the first 1, 2 .. PERSONS of the PLAN the number with the greatest ANY within LONG (by the exact chance; of"
            + " alike ones the fewest).");
        d.is("all alike", Tape.room(5, 12, "go 100").few(), 1);
        d.is("all alike: nobody", Tape.room(5, 12, "go 0").few(), 1);
        d.is("more by the last of 120 digits", Tape.room(5, 12, "go 99").few(), 5);
        SmokeRoom x = Tape.room(5, 1, "go 50 - still * 20");
        d.is(".5, .51, .271, 0", x.few(), 2);
        SmokeRoom y = Tape.room(5, 1, "go 50; hold still * 50");
        d.is(".5, then none", y.few(), 1);
        SmokeRoom z = Tape.room(5, 1, "go 75 if still = 0; go 50 if still = 1");
        d.is(".75 both", z.few(), 1);
        d.is("sure, then all but sure", Tape.room(5, 12, "go 99; go 50 if still = 0; go 100 if still = 0 and glance = 11").few(), 1);
        d.is("all but sure, then sure", Tape.room(5, 12, "go 99; go 50 if still = 3; go 100 if still = 3 and glance = 11").few(), 4);
        SmokeRoom v = Tape.room(2, 1, "go 50; go 29 + kind if still = 1");
        v.person(1, 0, 1);
        d.is("1 - .5, 1 - .71 * .7", v.few(), 2);
        SmokeRoom w = Tape.room(5, 2, "go 98 if still = 0; go 2 if still = 4 and glance = 0; go 99 if still = 4 and glance = 1");
        d.is("the last one", w.few(), 5);
        w.lasts(1);
        d.is("within LONG", w.few(), 1);
        d.says(31, "FEW; NONE without PERSONS.");
        d.is("none", new SmokeRoom().few(), NONE);
        x.people(1);
        d.is("one", x.few(), 1);
        x.people(0);
        d.is("no more", x.few(), NONE);
    }
}
