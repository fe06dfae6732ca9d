import java.math.BigInteger;

/** Promise by promise: ordinary inputs, the edges that the document names, and wrong inputs. */
public final class PromisesTest {
    private static final int NONE = SmokeRoom.NONE;
    private static final int NOTHING = -10000000;
    private static int wrong = 0;
    private static int looked = 0;

    private static void is(int promise, String what, int got, int due) {
        looked++;
        if (got == due) return;
        wrong++;
        System.out.println("promise " + promise + ", " + what + ": answered " + got + ", due is " + due);
    }

    private static void newObject() {
        SmokeRoom x = new SmokeRoom();
        for (int plan = 0; plan < 6; plan++) {
            is(1, "use", x.use(plan), plan == 0 ? 0 : plan - 1);
            is(1, "people of " + plan, x.count(0), 0);
        }
        for (int what = 1; what <= 9; what++) is(1, "count " + what, x.count(what), 0);
        is(1, "force", x.count(11), NONE);
        is(1, "fault", x.fault(), NONE);
        is(1, "status", x.status(), 0);
    }

    private static void plans() {
        SmokeRoom x = new SmokeRoom();
        is(2, "use(5)", x.use(5), 0);
        is(2, "use(6)", x.use(6), -1);
        is(2, "use(-1)", x.use(-1), -1);
        is(2, "count", x.count(10), 5);
        is(2, "use(0)", x.use(0), 5);
        is(3, "people(5)", x.people(5), 0);
        is(3, "people(6)", x.people(6), -1);
        is(3, "people(-1)", x.people(-1), -1);
        is(3, "people(0)", x.people(0), 5);
        is(3, "people(2)", x.people(2), 0);
        x.use(1);
        is(3, "of another plan", x.people(1), 0);
    }

    private static void persons() {
        SmokeRoom x = new SmokeRoom();
        is(4, "kind 7", x.person(4, 0, 7), 0);
        is(4, "kind 8", x.person(4, 0, 8), -1);
        is(4, "afraid 9", x.person(4, 1, 9), 0);
        is(4, "afraid 10", x.person(4, 1, 10), -1);
        is(4, "skill 9", x.person(4, 2, 9), 0);
        is(4, "skill -1", x.person(4, 2, -1), -1);
        is(4, "what 3", x.person(4, 3, 0), -1);
        is(4, "person 5", x.person(5, 0, 0), -1);
        is(4, "person -1", x.person(-1, 0, 0), -1);
        x.use(3);
        is(4, "the same for all plans", x.person(4, 0, 1), 7);
        is(4, "afraid was", x.person(4, 1, 1), 9);
        is(4, "skill was", x.person(4, 2, 1), 9);
        is(4, "refused", x.count(6), 6);
    }

    private static void paid() {
        SmokeRoom x = new SmokeRoom();
        x.people(2);
        is(5, "to stay", x.paid(0, 1, 0), 0);
        is(5, "to go", x.paid(0, 2, 11), 1);
        is(5, "ahead", x.chance(0, 10, 0, 0), 0);
        is(5, "from then on", x.chance(0, 11, 0, 0), 100);
        is(5, "a glance 12", x.paid(0, 2, 12), -1);
        is(5, "a glance -1", x.paid(0, 2, -1), -1);
        is(5, "a glance for 0", x.paid(0, 0, 1), -1);
        is(5, "a glance for 1", x.paid(0, 1, 1), -1);
        is(5, "how 3", x.paid(0, 3, 0), -1);
        is(5, "how -1", x.paid(0, -1, 0), -1);
        is(5, "person 5", x.paid(5, 0, 0), -1);
        is(5, "one not there", x.paid(4, 1, 0), 0);
        x.use(1);
        is(5, "another plan", x.paid(0, 1, 0), 0);
        x.use(0);
        is(5, "not any more", x.paid(0, 0, 0), 2);
        is(5, "without a law nobody goes", x.chance(0, 11, 0, 0), 0);
        SmokeRoom y = Tape.room(1, 6, "go 100");
        y.paid(0, 1, 0);
        is(5, "stays whatever the law is", y.chance(0, 0, 0, 0), 0);
        y.paid(0, 2, 1);
        is(5, "stays ahead", y.chance(0, 0, 0, 0), 0);
    }

    private static void seesAndAsks() {
        SmokeRoom x = Tape.room(3, 6, "go still * 10 + heard + alone * 50 + asked * 2");
        is(6, "all at first", x.chance(0, 0, 0, 0), 20);
        is(6, "sees was", x.sees(0, 0, 1), 31);
        is(6, "its own one is nothing", x.chance(0, 0, 0, 0), 50);
        is(6, "sees was 1", x.sees(0, 0, 24), 1);
        is(6, "those not there are nothing", x.chance(0, 0, 0, 0), 50);
        is(6, "hears", x.chance(0, 0, 6, 0), 52);
        is(6, "hears was", x.sees(0, 1, 4), 31);
        is(6, "hears one", x.chance(0, 0, 6, 0), 51);
        is(6, "hears what is gone not", x.chance(0, 0, 2, 4), 50);
        is(6, "32", x.sees(0, 0, 32), -1);
        is(6, "-1", x.sees(0, 0, -1), -1);
        is(6, "what 2", x.sees(0, 2, 0), -1);
        is(6, "person 5", x.sees(5, 0, 0), -1);
        x.use(1);
        is(6, "another plan", x.sees(0, 1, 0), 31);
        x.use(0);
        is(7, "ask", x.ask(0, 3), NONE);
        is(7, "ahead", x.chance(0, 2, 0, 0), 50);
        is(7, "from then on", x.chance(0, 3, 0, 0), 52);
        is(7, "later", x.chance(0, 11, 0, 0), 52);
        is(7, "12", x.ask(0, 12), -1);
        is(7, "status", x.status(), -1);
        is(7, "-2", x.ask(0, -2), -1);
        is(7, "person -1", x.ask(-1, 0), -1);
        x.use(1);
        is(7, "another plan", x.ask(0, 11), NONE);
        x.use(0);
        is(7, "not asked", x.ask(0, NONE), 3);
        is(7, "was not", x.ask(0, 0), NONE);
        is(7, "that is no refusal", x.status(), 0);
    }

    private static void friendsLastsSize() {
        SmokeRoom x = Tape.room(4, 6, "go friends * 10");
        is(8, "friends", x.friends(0, 1, 1), 0);
        is(8, "both ways", x.friends(1, 0, 1), 1);
        x.friends(0, 2, 1);
        is(8, "stirring and gone ones", x.chance(0, 0, 2, 12), 20);
        is(8, "one of the other", x.chance(1, 0, 1, 12), 10);
        x.sees(0, 0, 4);
        is(8, "only those it sees", x.chance(0, 0, 2, 4), 10);
        is(8, "no more", x.friends(2, 0, 0), 1);
        is(8, "nobody", x.chance(0, 0, 2, 4), 0);
        is(8, "the same one", x.friends(2, 2, 0), -1);
        is(8, "are 2", x.friends(0, 1, 2), -1);
        is(8, "person 5", x.friends(0, 5, 1), -1);
        is(8, "person -1", x.friends(-1, 0, 1), -1);
        is(9, "lasts(12)", x.lasts(12), 6);
        is(9, "lasts(0)", x.lasts(0), -1);
        is(9, "lasts(13)", x.lasts(13), -1);
        is(9, "lasts(1)", x.lasts(1), 12);
        SmokeRoom y = new SmokeRoom();
        for (int g = 0; g < 12; g++) is(10, "at first", y.size(g, 99 - g), Math.min(99, 10 * g + 10));
        for (int g = 0; g < 12; g++) is(10, "told", y.size(g, 0), 99 - g);
        is(10, "100", y.size(0, 100), -1);
        is(10, "-1", y.size(0, -1), -1);
        is(10, "glance 12", y.size(12, 0), -1);
        is(10, "glance -1", y.size(-1, 0), -1);
    }

    private static void tape() {
        SmokeRoom x = new SmokeRoom();
        for (int i = 1; i <= 20; i++) is(11, "feed", x.feed(i, -1, 0, 1, 2), 20 * i);
        is(11, "no more", x.feed(0, 0, 0, 0, 0), NONE);
        is(11, "that is no refusal", x.count(6), 0);
        is(12, "more than it has", x.end(401), NONE);
        is(12, "-1", x.end(-1), NONE);
        is(12, "as it is", x.end(400), 400);
        is(12, "381", x.end(381), 381);
        is(11, "401 would be too many", x.feed(0, 0, 0, 0, 0), NONE);
        is(12, "380", x.end(380), 380);
        is(11, "400 again", x.feed(0, 0, 0, 0, 0), 400);
        is(12, "19", x.end(19), 19);
        is(12, "20 are gone", x.end(20), NONE);
        is(13, "a row", x.row(), 4);
        is(13, "the tape is empty", x.count(5), 0);
        is(13, "empty", x.row(), -6);
        is(13, "status", x.status(), -6);
        int[] due = {1, 0, 0, 1, 50};
        for (int g = 0; g < 5; g++) is(13, "size", x.size(g, 7), due[g]);
        x.feed(99, 100, 98, 97, 96);
        x.feed(0x01000005, 94, 93, 92, 91);
        x.feed(90, 89, 88, 87, 86);
        x.end(49);
        is(13, "49 bytes", x.row(), -6);
        is(13, "stays", x.size(0, 7), 7);
        x.end(0);
        x.feed(99, 100, 98, 97, 96);
        x.feed(0x01000005, 94, 93, 92, 91);
        x.feed(90, 89, 88, 87, 86);
        x.end(48);
        is(13, "48 bytes", x.row(), 12);
        int[] all = {99, 0, 98, 97, 96, 0, 94, 93, 92, 91, 90, 89};
        for (int g = 0; g < 12; g++) is(13, "of 48 bytes", x.size(g, 3), all[g]);
        x.feed(1, 2, 3, 4, 5);
        x.end(3);
        is(13, "3 bytes", x.row(), 0);
        is(13, "that is no refusal", x.status(), 0);
        is(13, "that one stays", x.size(0, 3), 3);
        x.feed(1, 2, 3, 4, 5);
        x.end(7);
        is(13, "7 bytes", x.row(), 1);
        is(13, "told", x.size(0, 3), 1);
        is(13, "not told", x.size(1, 3), 3);
        is(13, "refused", x.count(9), 2);
        x.feed(0x80000005, 0x00010005, 0x00000105, 0, 99);
        is(13, "five", x.row(), 5);
        for (int g = 0; g < 4; g++) is(13, "smelt", x.size(g, 3), 0);
        is(13, "99", x.size(4, 3), 99);
    }

    private static void laws() {
        SmokeRoom x = new SmokeRoom();
        is(14, "a law", Tape.law(x, "go 1"), 0);
        is(14, "the tape is empty", x.count(5), 0);
        is(14, "blanks alone", Tape.law(x, "   "), -6);
        is(15, "blanks alone", x.fault(), 3);
        is(14, "empty then, too", x.count(5), 0);
        for (int n = 1; n < 4; n++) is(14, "a law", Tape.law(x, " hold 1 ; go 2;hold 3"), n);
        is(15, "none", x.fault(), NONE);
        is(14, "a fifth that is wrong", Tape.law(x, "go"), -5);
        is(14, "the tape is empty, too", x.count(5), 0);
        is(15, "it was not read", x.fault(), NONE);
        is(14, "many", x.count(1), 4);
        is(14, "refused by -5", x.count(8), 1);
        is(14, "refused by -6", x.count(9), 1);
        is(16, "force", x.force(3), NONE);
        is(16, "4", x.force(4), -2);
        is(16, "-2", x.force(-2), -2);
        is(16, "none", x.force(NONE), 3);
        is(16, "was none", x.force(0), NONE);
        is(16, "that is no refusal", x.status(), 0);
        is(16, "refused", x.count(7), 2);
        is(17, "none of them", x.reasons(0), 0);
        is(17, "two", x.reasons(3), 2);
        is(17, "4", x.reasons(4), NONE);
        is(17, "-1", x.reasons(-1), NONE);
    }

    private static void fault(String text, int place) {
        SmokeRoom x = new SmokeRoom();
        is(14, text, Tape.law(x, text), place == NONE ? 0 : -6);
        is(15, text, x.fault(), place);
        is(14, text, x.count(1), place == NONE ? 1 : 0);
    }

    private static String times(String what, int many) {
        return what.repeat(many);
    }

    private static void faults() {
        fault("", 0);
        fault("go 1", NONE);
        fault("go1", NONE);
        fault("go 1 ", NONE);
        fault("goo 1", 0);
        fault("Go 1", 0);
        fault("go 1 go 2", 5);
        fault("go 1;", 5);
        fault("go 1; ", 6);
        fault("go 1;;go 2", 5);
        fault("hold 1 + ", 9);
        fault("hold + 1", 5);
        fault("hold - 1", 5);
        fault("go 1000", NONE);
        fault("go 001000", NONE);
        fault("go 1001", 3);
        fault("go 99999999999999999999", 3);
        fault("go sizes", 3);
        fault("go size1", 7);
        fault("go 1size", 4);
        fault("go 1\t", 4);
        fault("go 1\0", 4);
        fault("go 1\u00ff", 4);
        fault("go [1", 5);
        fault("go [1)", 5);
        fault("go (1)", 3);
        fault("go []", 4);
        fault("go 1]", 4);
        fault("go 1 if", 7);
        fault("go 1 if 1", 9);
        fault("go 1 if 1<", 10);
        fault("go 1 if 1<2", NONE);
        fault("go 1 if 1<2<3", 11);
        fault("go 1 if 1<=2", 10);
        fault("go 1 if (1<2)", NONE);
        fault("go 1 if (1<2", 12);
        fault("go 1 if (1)<2", 10);
        fault("go 1 if [1]<2", NONE);
        fault("go 1 if ([1]<2)", NONE);
        fault("go 1 if ((1<2) and 3>4) or not not(5=6)", NONE);
        fault("go 1 if not", 11);
        fault("go 1 if not or", 12);
        fault("go 1 if 1=1 or", 14);
        fault("go 1 if 1=1 and and", 16);
        fault("go 1 if 1=1 not 1=1", 12);
        fault("go 1 if (1=1) 2", 14);
        fault("go 1 if 1=1 if 1=1", 12);
        fault("go 1 if 1=1;hold 2 if 2=2;go 3", NONE);
        fault("go size+still-stirs*gone/heard+friends+glance+kind+afraid+skill+asked+alone", NONE);
        fault("go 1 if " + times("not ", 60) + "1=1", NONE);
    }

    private static void limits() {
        fault(times("go 1;", 11) + "go 1", NONE);
        fault(times("go 1;", 12) + "go 1", 60);
        fault(times("go 1;", 12), 60);
        fault(times("go 1;", 12) + " x", 61);
        fault("go 1" + times("+1", 49), NONE);
        fault("go 1" + times("+1", 50), 103);
        fault("go 1" + times("+1", 49) + "+ size", 104);
        fault(times("go 1+size;", 11) + "go 1" + times("+1", 27) + " if 1=1", 110 + 4 + 54 + 4);
        fault(times("go 1+size;", 11) + "go 1" + times("+1", 25) + " if 1=1", NONE);
        fault("go " + times("[", 8) + "1" + times("]", 8), NONE);
        fault("go " + times("[", 9) + "1" + times("]", 9), 11);
        fault("go [1]+" + times("[", 8) + "1" + times("]", 8), NONE);
        fault("go 1 if " + times("(", 8) + "1=1" + times(")", 8), NONE);
        fault("go 1 if " + times("(", 9) + "1=1" + times(")", 9), 16);
        fault("go 1 if " + times("(", 5) + times("[", 3) + "1]]]=1" + times(")", 5), NONE);
        fault("go 1 if " + times("(", 5) + times("[", 4) + "1]]]]=1" + times(")", 5), 16);
        fault("go " + times("0", 397), NONE);
        fault("go 1 if " + times("(1=1)or", 23) + "1=1", NONE);
    }

    private static void chance(String law, int due) {
        SmokeRoom x = Tape.room(3, 6, law);
        x.person(0, 0, 3);
        x.person(0, 1, 4);
        x.person(0, 2, 5);
        is(18, law, x.chance(0, 2, 2, 4), due);
    }

    private static void chances() {
        chance("go size", 30);
        chance("go still+10*stirs+20*gone+30*heard", 60);
        chance("go glance", 2);
        chance("go kind*1+afraid*4+skill*10", 69);
        chance("go asked+alone", 0);
        chance("go 7-20", 0);
        chance("go 101", 100);
        chance("go 7/2", 3);
        chance("go 50+[0-7]/2", 47);
        chance("go 2+3*4-6/2", 11);
        chance("go 20-5-5", 10);
        chance("go 40/2/5", 4);
        chance("go [2+3]*4", 20);
        chance("go 10;go 20", 20);
        chance("go 10;go 20 if 1>2", 10);
        chance("go 10;go 20/0", 10);
        chance("go 20;hold 5", 15);
        chance("hold 5;go 20", 15);
        chance("hold 5;hold 6;go 20", 9);
        chance("go 20;hold 5-10", 20);
        chance("go 300;hold 250", 50);
        chance("go 20;hold 30", 0);
        chance("hold 5", 0);
        chance("go 20;hold 5/0", 20);
        chance("go 20;hold 5 if 1/0=1", 20);
        chance("go 20;hold 5 if not 1/0=1", 20);
        chance("go 20;hold 5 if 1=1 or 1/0=1", 15);
        chance("go 20;hold 5 if 1/0=1 or 1=1", 20);
        chance("go 20;hold 5 if not(1=2 and 1/0=1)", 15);
        chance("go 20;hold 5 if 1=1 and 1/0=1", 20);
        chance("go 20;hold 5 if 1=2 or 1/0=1 or 1=1", 20);
        chance("go 20;hold 5 if 1=2 and 1/0=1 or 1=1", 15);
        chance("go 20;hold 5 if 1=1 or 1=1 and 1/0=1", 15);
        chance("go 20;hold 5 if not 1=2", 15);
        chance("go 20;hold 5 if not 1=1", 20);
        chance("go 20;hold 5 if not 7+[3*4-[2+1]]=16", 20);
        chance("go 20;hold 5 if not 7+[3*4-[2+1]]=15", 15);
        chance("go 20;hold 5 if not(not 1=1)", 15);
        chance("go 20;hold 5 if not(not 1=2)", 20);
        chance("go 20;hold 5 if not 1=1 and 1=1", 20);
        chance("go 20;hold 5 if not 1=1 or 1=1", 15);
        chance("go 20;hold 5 if 2<2", 20);
        chance("go 20;hold 5 if 2>2", 20);
        chance("go 20;hold 5 if 1<2", 15);
        chance("go 20;hold 5 if 2<1", 20);
        chance("go 20;hold 5 if 1>2", 20);
        chance("go 20;hold 5 if not not 1=2", 20);
        chance("go 20;hold 5 if not 1=2 and 1=2", 20);
        chance("go 20;hold 5 if 2>1 and 1<2 and 2=2", 15);
        chance("go 20;hold 5 if 1=1 or 1=2 and 1=2", 15);
        chance("go 20;hold 5 if (1=1 or 1=2) and 1=2", 20);
        chance("go 1000*1000*1000/1000/1000/10", 100);
        chance("go 20 if 1000*1000*1000=1000*1000*1000", 20);
        chance("go 20 if 1000*1000*1000+1>0", 0);
        chance("go 20 if 0-1000*1000*1000<0", 20);
        chance("go 20 if 0-1000*1000*1000-1<0", 0);
        chance("go 20 if 1000*1000*1000+1-1>0", 0);
        chance("go 20 if 1000*1000*1000*1000*0=0", 0);
        chance("go 20 if 0*[1/0]=0", 0);
    }

    private static void chanceEdges() {
        SmokeRoom x = Tape.room(2, 1, "go 10 * still + 20 * stirs + 30 * gone");
        is(18, "sits", x.chance(0, 0, 0, 0), 10);
        is(18, "stirs", x.chance(0, 0, 2, 0), 20);
        is(18, "gone", x.chance(0, 0, 0, 2), 30);
        is(18, "both", x.chance(0, 0, 2, 2), 10);
        is(18, "itself", x.chance(0, 0, 1, 1), 10);
        is(18, "those not there", x.chance(0, 0, 28, 0), 10);
        is(18, "glance 11, whatever LONG is", x.chance(1, 11, 1, 0), 20);
        is(18, "glance 12", x.chance(0, 12, 0, 0), NONE);
        is(18, "glance -1", x.chance(0, -1, 0, 0), NONE);
        is(18, "person 2", x.chance(2, 0, 0, 0), NONE);
        is(18, "person -1", x.chance(-1, 0, 0, 0), NONE);
        is(18, "all bits gone", x.chance(0, 0, 0, 31), 30);
        is(18, "all bits stir", x.chance(0, 0, 31, 0), 20);
        is(18, "all bits both", x.chance(0, 0, 31, 31), 10);
        is(18, "stirs 32", x.chance(0, 0, 32, 0), NONE);
        is(18, "stirs -1", x.chance(0, 0, -1, 0), NONE);
        is(18, "gone 32", x.chance(0, 0, 0, 32), NONE);
        is(18, "gone -1", x.chance(0, 0, 0, -1), NONE);
        is(18, "gone as low as can be", x.chance(0, 0, 0, Integer.MIN_VALUE), NONE);
        is(18, "both can't be", x.chance(0, 0, 64, 64), NONE);
        is(18, "that is no refusal", x.count(6), 0);
    }

    private static void exactly() {
        SmokeRoom x = Tape.room(2, 2, "go 10 + stirs * 40");
        is(19, "any in 1", x.odds(NONE, 1), 190000);
        is(19, "any in 2", x.odds(NONE, 2), 343900);
        is(19, "each in 1", x.odds(0, 1), 100000);
        is(19, "each in 2", x.odds(1, 2), 226000);
        is(19, "each in 0", x.odds(1, 0), 0);
        is(19, "in 3", x.odds(1, 3), NONE);
        is(19, "in -1", x.odds(1, -1), NONE);
        is(19, "person 2", x.odds(2, 1), NONE);
        is(19, "person -2", x.odds(-2, 1), NONE);
        is(20, "each", x.digits(0, 2, 0), 22600000);
        is(20, "any", x.digits(NONE, 2, 0), 34390000);
        is(20, "any in 1", x.digits(NONE, 1, 0), 1900);
        is(20, "k 14", x.digits(NONE, 1, 14), 0);
        is(20, "k 15", x.digits(NONE, 1, 15), NONE);
        is(20, "k -1", x.digits(NONE, 1, -1), NONE);
        is(20, "person 2", x.digits(2, 1, 0), NONE);
        is(20, "in 3", x.digits(0, 3, 0), NONE);
        is(21, "alone", x.alone(0, 2), 190000);
        is(21, "line", x.alone(NONE, 2), 343900);
        is(21, "in 0", x.alone(0, 0), 0);
        is(21, "in 3", x.alone(0, 3), NONE);
        is(21, "person 2", x.alone(2, 2), NONE);
        is(21, "person -2", x.alone(-2, 2), NONE);
        is(28, "each", x.crowd(0, 2), 2);
        is(28, "each in 1", x.crowd(0, 1), 1);
        is(28, "any", x.crowd(NONE, 2), 1);
        is(28, "in 3", x.crowd(NONE, 3), NONE);
        is(28, "person 2", x.crowd(2, 1), NONE);
        x.people(0);
        is(19, "without persons", x.odds(NONE, 2), 0);
        is(20, "without persons", x.digits(NONE, 2, 0), 0);
        is(21, "without persons", x.alone(NONE, 2), 0);
        is(28, "without persons", x.crowd(NONE, 2), 1);
        is(19, "each without persons", x.odds(0, 2), NONE);
    }

    private static void longNumbers() {
        BigInteger whole = BigInteger.valueOf(100).pow(60);
        SmokeRoom x = Tape.room(5, 12, "go 37");
        BigInteger any = whole.subtract(BigInteger.valueOf(63).pow(60));
        BigInteger each = whole.subtract(BigInteger.valueOf(63).pow(12).multiply(BigInteger.valueOf(100).pow(48)));
        for (int k = 0; k < 15; k++) {
            BigInteger low = BigInteger.TEN.pow(9 * k);
            is(20, "any " + k, x.digits(NONE, 12, k), any.divide(low).mod(BigInteger.TEN.pow(9)).intValue());
            is(20, "each " + k, x.digits(4, 12, k), each.divide(low).mod(BigInteger.TEN.pow(9)).intValue());
        }
        is(19, "any is cut", x.odds(NONE, 12), 999999);
        SmokeRoom y = Tape.room(5, 12, "go 100");
        is(20, "sure, 120 noughts", y.digits(NONE, 12, 13), 1000);
        is(20, "sure, below", y.digits(NONE, 12, 12), 0);
        is(20, "sure, each", y.digits(2, 12, 13), 1000);
        is(19, "sure", y.odds(NONE, 12), 1000000);
        is(19, "sure, each", y.odds(0, 1), 1000000);
        // Told apart only in the last of many digits: one of five goes a hundredth more often at the last GLANCE.
        SmokeRoom z = Tape.room(5, 12, "go 99; go 98 if still > 0 and glance = 11 and skill = 1");
        is(28, "the same but for one", z.crowd(NONE, 12), 1);
        z.person(3, 2, 1);
        is(28, "less by the exact chance", z.crowd(NONE, 12), 0);
        is(19, "the same millionths", z.odds(NONE, 12), z.alone(NONE, 12));
        SmokeRoom w = Tape.room(5, 12, "go 98; go 99 if still > 0 and glance = 11 and skill = 1");
        w.person(3, 2, 1);
        is(28, "more by the exact chance", w.crowd(NONE, 12), 2);
    }

    private static void reasonsHold() {
        SmokeRoom x = Tape.room(1, 1, "hold 10; go 50; hold 5 if still > 0; hold 0-3");
        x.use(1);
        x.people(2);
        is(22, "first", x.held(0, 0), 100000);
        is(22, "second, alone", x.held(0, 1), 0);
        // 1 - .6 * .6 less 1 - .65 * .65
        is(22, "second, of two", x.held(1, 1), 640000 - 577500);
        is(22, "third", x.held(1, 2), 0);
        is(22, "without persons", x.held(2, 0), 0);
        is(22, "plan 6", x.held(6, 0), NOTHING);
        is(22, "plan -1", x.held(-1, 0), NOTHING);
        is(22, "reason 3", x.held(0, 3), NOTHING);
        is(22, "reason -1", x.held(0, -1), NOTHING);
        x.force(NONE);
        is(22, "without a law", x.held(0, 0), NOTHING);
        is(23, "without a law", x.parts(0, 0, 0), NONE);
    }

    private static void movesWithNoneInForce() {
        SmokeRoom x = new SmokeRoom();
        for (int what = 0; what <= 10; what++) {
            is(26, "nobody there, " + what, x.moved(0, what), 0);
            is(27, "no plan with persons, " + what, x.span(what, what & 1), NOTHING);
        }
        x.people(1);
        for (int what = 0; what <= 10; what++) {
            is(26, "nobody goes, " + what, x.moved(0, what), 0);
            is(27, "nobody goes, least by " + what, x.span(what, 0), 0);
            is(27, "nobody goes, greatest by " + what, x.span(what, 1), 0);
        }
        is(26, "11", x.moved(0, 11), NOTHING);
        is(26, "plan 6", x.moved(6, 0), NOTHING);
        is(27, "11", x.span(11, 0), NOTHING);
        is(27, "most -1", x.span(0, -1), NOTHING);
        x.use(1);
        x.people(2);
        x.paid(0, 2, 3);
        is(26, "who is paid to go goes, unless none is paid", x.moved(1, 4), -1000000);
        is(26, "nothing else moves that", x.moved(1, 8), 0);
        is(27, "least", x.span(4, 0), -1000000);
        is(27, "greatest", x.span(4, 1), 0);
    }

    private static void partings() {
        // Chances with both reasons 35 for one who sees another: 1 - .65 * .65 = .5775; without the second .64.
        SmokeRoom x = Tape.room(1, 1, "hold 10; go 50; hold 5 if still > 0");
        x.use(1);
        x.people(2);
        is(22, "with it .5775, without it .64", x.held(1, 1), 62500);
        // Without the first: 1 - .55 * .55 = .6975.
        is(22, "with it .5775, without it .6975", x.held(1, 0), 120000);
        is(23, "plan 0 by 100000 and 0, plan 1 by 120000 and 62500", x.parts(0, 1, 0), 0);
        is(23, "by", x.parts(0, 1, 1), 100000);
        is(23, "either way", x.parts(1, 0, 1), 100000);
        is(23, "one and itself", x.parts(1, 1, 1), 0);
        is(23, "of alike ones the first", x.parts(1, 1, 0), 0);
        is(23, "what 2", x.parts(0, 1, 2), NONE);
        is(23, "what -1", x.parts(0, 1, -1), NONE);
        is(23, "reason 2", x.parts(0, 2, 0), NONE);
        is(23, "reason -1", x.parts(-1, 0, 0), NONE);
        x.person(0, 1, 3);
        x.person(1, 1, 4);
        x.person(4, 1, 9);
        is(25, "10 times 3", x.fright(0), 30);
        is(25, "10 times 4", x.fright(1), 40);
        is(25, "without persons", x.fright(2), 0);
        is(25, "6", x.fright(6), NONE);
        is(25, "-1", x.fright(-1), NONE);
        x.lasts(3);
        is(25, "30 times 3", x.fright(0), 90);
        x.size(1, 99);
        is(25, "99 times 3", x.fright(0), 297);
        x.lasts(1);
        is(24, "29", x.gentle(0, 1, 29, 0), NONE);
        is(24, "30", x.gentle(0, 1, 30, 0), 0);
        is(24, "30, by", x.gentle(0, 1, 30, 1), 100000);
        x.use(0);
        x.person(0, 1, 9);
        is(24, "90 are all", x.gentle(0, 1, 90, 0), 0);
        is(24, "89 is none", x.gentle(0, 1, 89, 0), NONE);
        x.people(0);
        is(24, "891", x.gentle(0, 1, 891, 1), 57500);
        is(24, "of those with persons", x.gentle(0, 1, 891, 0), 1);
        is(23, "of those with persons", x.parts(0, 1, 0), 1);
        is(24, "892", x.gentle(0, 1, 892, 0), NONE);
        is(24, "-1", x.gentle(0, 1, -1, 0), NONE);
        is(24, "what 2", x.gentle(0, 1, 891, 2), NONE);
        is(24, "reason 2", x.gentle(2, 1, 891, 0), NONE);
        x.use(1);
        x.people(0);
        is(23, "no plan with persons", x.parts(0, 1, 0), NONE);
        is(24, "no plan with persons", x.gentle(0, 1, 891, 1), NONE);
    }

    private static void moves() {
        SmokeRoom x = Tape.room(2, 1, "go 10 + size / 10 + asked * 5 + alone * 7");
        x.size(0, 50);
        x.sees(0, 0, 0);
        x.ask(1, 0);
        x.paid(1, 1, 0);
        // Now: 22 and 0, so ANY is .22.
        is(26, "all friends", x.moved(0, 0), 0);
        is(26, "none friends", x.moved(0, 1), 0);
        is(26, "all asked: 27", x.moved(0, 2), 50000);
        is(26, "none asked: 22", x.moved(0, 3), 0);
        is(26, "none paid: 22 and 20", x.moved(0, 4), 156000);
        is(26, "size 99: 26", x.moved(0, 5), 40000);
        is(26, "size 0: 17", x.moved(0, 6), -50000);
        is(26, "all see: 15", x.moved(0, 7), -70000);
        is(26, "none sees: 22", x.moved(0, 8), 0);
        is(26, "all hear", x.moved(0, 9), 0);
        is(26, "none hears", x.moved(0, 10), 0);
        is(26, "11", x.moved(0, 11), NOTHING);
        is(26, "-1", x.moved(0, -1), NOTHING);
        is(26, "plan 6", x.moved(6, 0), NOTHING);
        is(26, "plan -1", x.moved(-1, 0), NOTHING);
        is(26, "without persons", x.moved(1, 5), 0);
        is(26, "nothing stays so", x.odds(NONE, 1), 220000);
        x.use(1);
        x.people(1);
        x.ask(0, 0);
        // One who is asked and alone: 27.
        is(27, "asked, least", x.span(2, 0), 0);
        is(27, "asked, greatest", x.span(2, 1), 50000);
        is(27, "none asked, least", x.span(3, 0), -50000);
        is(27, "none asked, greatest", x.span(3, 1), 0);
        is(27, "11", x.span(11, 0), NOTHING);
        is(27, "most 2", x.span(2, 2), NOTHING);
        x.people(0);
        is(27, "those without persons do not count", x.span(5, 0), 40000);
        x.use(0);
        x.people(0);
        is(27, "none with persons", x.span(2, 0), NOTHING);
    }

    private static void soonerWordsFew() {
        SmokeRoom x = Tape.room(2, 2, "go 10 + stirs * 40");
        is(29, "0", x.sooner(NONE, 0), 0);
        is(29, "190000", x.sooner(NONE, 190000), 1);
        is(29, "190001", x.sooner(NONE, 190001), 2);
        is(29, "343901", x.sooner(NONE, 343901), NONE);
        is(29, "each 100000", x.sooner(0, 100000), 1);
        is(29, "each 226000", x.sooner(0, 226000), 2);
        is(29, "each 226001", x.sooner(0, 226001), NONE);
        is(29, "1000001", x.sooner(0, 1000001), NONE);
        is(29, "-1", x.sooner(0, -1), NONE);
        is(29, "person 2", x.sooner(2, 0), NONE);
        SmokeRoom y = Tape.room(3, 1, "go 10 + asked * skill * 10");
        y.person(1, 2, 9);
        y.person(2, 2, 4);
        is(30, "as it is", y.words(271000), 0);
        is(30, "one by 2: .1 .1 .5", y.words(271001), 2);
        is(30, "1 by itself", y.words(1000000), 2);
        is(30, "1000001", y.words(1000001), NONE);
        is(30, "-1", y.words(-1), NONE);
        y.person(1, 2, 4);
        is(30, "of alike ones the lowest", y.words(500000), 2);
        is(30, "two", y.words(600000), 6);
        is(30, "none do", y.words(780000), NONE);
        is(30, "nobody stays asked", y.ask(1, 0), NONE);
        SmokeRoom late = Tape.room(1, 2, "go asked * 50");
        late.ask(0, 1);
        is(30, "from glance 0 on", late.words(750000), 1);
        is(30, "as it is, from 1 on", late.words(500000), 0);
        SmokeRoom turned = Tape.room(2, 1, "go 50 - asked * 20");
        turned.ask(0, 0);
        is(30, "asking can hold back", turned.words(650001), NONE);
        SmokeRoom z = Tape.room(3, 1, "go 50 - still * 20");
        is(31, ".5 .51 .271", z.few(), 2);
        z.people(1);
        is(31, "one", z.few(), 1);
        z.people(0);
        is(31, "none", z.few(), NONE);
        is(30, "without persons", z.words(0), 0);
        is(30, "without persons", z.words(1), NONE);
        is(29, "without persons", z.sooner(NONE, 0), 0);
        is(31, "of alike ones the fewest", Tape.room(5, 3, "go 100").few(), 1);
        is(31, "by the exact chance", Tape.room(5, 12, "go 90").few(), 5);
    }

    private static void worlds() {
        // Draws from 0 on: 45, 41, 89, and 12345, 628841, 621889 behind them.
        SmokeRoom x = Tape.room(1, 3, "go 42");
        is(33, "ahead of any world", x.went(0), NONE);
        is(32, "one goes", x.run(0), 1);
        is(33, "at 1", x.went(0), 1);
        is(33, "person 1", x.went(1), NONE);
        is(33, "person 5", x.went(5), NONE);
        is(33, "person -1", x.went(-1), NONE);
        is(32, "-1", x.run(-1), -1);
        is(32, "1000001", x.run(1000001), -1);
        is(33, "the latest stays", x.went(0), 1);
        x.lasts(1);
        is(34, "one", x.worlds(1, 0), 0);
        is(34, "two", x.worlds(2, 0), 1);
        is(34, "three", x.worlds(3, 0), 1);
        is(34, "0", x.worlds(0, 0), NONE);
        is(34, "101", x.worlds(101, 0), NONE);
        is(34, "seed -1", x.worlds(1, -1), NONE);
        is(34, "seed 1000001", x.worlds(1, 1000001), NONE);
        is(33, "the latest is that of run", x.went(0), 1);
        x.lasts(3);
        is(34, "draws go on behind one who went", x.worlds(2, 0), 1 + later());
        x.people(2);
        is(32, "two draw by turns", x.run(0), 2 + laterOfTwo());
        is(33, "the second at 0", x.went(1), 0);
        SmokeRoom y = Tape.room(5, 12, "go 100");
        is(32, "all", y.run(1000000), 31);
        is(33, "at 0", y.went(4), 0);
        y.paid(2, 2, 7);
        y.paid(3, 1, 0);
        is(32, "but one", y.run(5), 23);
        is(33, "at 7", y.went(2), 7);
        is(33, "never", y.went(3), NONE);
        is(34, "a hundred", y.worlds(100, 1000000), 100);
        SmokeRoom z = Tape.room(2, 3, "go 100 if stirs > 0; go 100 if skill = 1 and glance = 0");
        z.person(0, 2, 1);
        is(32, "one behind the other", z.run(9), 3);
        is(33, "first", z.went(0), 0);
        is(33, "all behind the last draw", z.went(1), 1);
    }

    /** The second world of one who draws once at least: whether it goes, drawn here by hand. */
    private static int later() {
        long s = 621889;
        // The first world: 45 no, 41 goes at GLANCE 1, so the third draw belongs to the second world.
        for (int g = 0; g < 3; g++) {
            if (s % 100 < 42) return 1;
            s = (s * 1103 + 12345) % 1000003;
        }
        return 0;
    }

    /** Of two: 45 for the first, 41 for the second at GLANCE 0, then the first draws alone. */
    private static int laterOfTwo() {
        long s = 621889;
        for (int g = 1; g < 3; g++) {
            if (s % 100 < 42) return 1;
            s = (s * 1103 + 12345) % 1000003;
        }
        return 0;
    }

    private static void trials() {
        SmokeRoom x = Tape.room(1, 1, "go 20");
        is(37, "the only one", x.likely(0), 1000000);
        Tape.law(x, "go 60");
        is(37, "of two", x.likely(0), 500000);
        is(35, "trial", x.trial(0, 1), 0);
        is(37, "20 of 80", x.likely(0), 250000);
        is(37, "60 of 80", x.likely(1), 750000);
        is(35, "not", x.trial(0, 0), 1);
        is(37, "16 of 40", x.likely(0), 400000);
        is(36, "weigh", x.weigh(0, 3), 1);
        is(37, "48 of 72, cut", x.likely(0), 666666);
        is(36, "101", x.weigh(0, 101), -1);
        is(36, "-1", x.weigh(0, -1), -1);
        is(36, "no such law", x.weigh(2, 1), -2);
        is(36, "the first in order", x.weigh(2, 101), -1);
        is(36, "was", x.weigh(0, 0), 3);
        is(37, "weight 0", x.likely(0), 0);
        x.weigh(1, 0);
        is(37, "all 0", x.likely(1), 0);
        is(36, "100", x.weigh(1, 100), 0);
        is(37, "2", x.likely(2), NONE);
        is(37, "-1", x.likely(-1), NONE);
        is(35, "plan 6", x.trial(6, 0), -1);
        is(35, "plan -1", x.trial(-1, 0), -1);
        is(35, "any 2", x.trial(0, 2), -1);
        for (int t = 2; t < 8; t++) is(35, "more", x.trial(5, 0), t);
        is(35, "no room", x.trial(0, 0), -5);
        is(35, "the first in order", x.trial(0, 2), -1);
        is(35, "count", x.count(2), 8);
        is(37, "trials without persons are sure", x.likely(1), 1000000);
    }

    private static void printed() {
        SmokeRoom x = Tape.room(1, 1, "go 20");
        Tape.law(x, "go 60");
        is(38, "none", x.printed(0, 0, 0, 0), 500000);
        // One: 20 of 80 or 80 of 120.
        is(38, "least of one", x.printed(0, 0, 1, 0), 250000);
        is(38, "greatest of one", x.printed(0, 0, 1, 1), 666666);
        // Two: 4 of 40, 16 of 40, 64 of 80.
        is(38, "least of two", x.printed(0, 0, 2, 0), 100000);
        is(38, "greatest of two", x.printed(0, 0, 2, 1), 800000);
        is(38, "greatest of four", x.printed(0, 0, 4, 1), 941176);
        is(38, "many 5", x.printed(0, 0, 5, 1), NONE);
        is(38, "many -1", x.printed(0, 0, -1, 1), NONE);
        is(38, "most 2", x.printed(0, 0, 1, 2), NONE);
        is(38, "plan 6", x.printed(0, 6, 1, 1), NONE);
        is(38, "law 2", x.printed(2, 0, 1, 1), NONE);
        is(38, "law -1", x.printed(-1, 0, 1, 1), NONE);
        is(38, "no trial stays", x.count(2), 0);
        is(38, "a plan without persons: that any went can't be", x.printed(0, 1, 1, 0), 0);
        is(38, "and that none did is sure", x.printed(0, 1, 1, 1), 500000);
        x.use(2);
        x.people(2);
        // Of one .2 and .6, of two .36 and .84.
        is(39, "plan", x.next(0, 1, 0), 2);
        is(39, "by", x.next(1, 0, 1), 480000);
        is(39, "one and itself", x.next(1, 1, 0), 0);
        is(39, "by 0", x.next(1, 1, 1), 0);
        is(39, "law 2", x.next(0, 2, 0), NONE);
        is(39, "law -1", x.next(-1, 0, 0), NONE);
        is(39, "what 2", x.next(0, 1, 2), NONE);
        x.people(0);
        is(39, "of those with persons", x.next(0, 1, 0), 0);
        x.use(0);
        x.people(0);
        is(39, "none", x.next(0, 1, 1), NONE);
    }

    /** Eight TRIALS and four not printed of five PERSONS through twelve GLANCES: the longest numbers there are. */
    private static void longTrials() {
        SmokeRoom x = Tape.room(5, 12, "go 1");
        Tape.law(x, "go 2");
        Tape.law(x, "go 3");
        Tape.law(x, "go 0");
        x.weigh(2, 100);
        for (int t = 0; t < 8; t++) x.trial(0, t % 2);
        BigInteger[] counts = new BigInteger[4];
        for (int extra = 0; extra <= 4; extra += 4) {
            BigInteger all = BigInteger.ZERO;
            for (int n = 0; n < 4; n++) {
                BigInteger whole = BigInteger.valueOf(100).pow(60);
                BigInteger stays = BigInteger.valueOf(n == 3 ? 100 : 99 - n).pow(60);
                counts[n] = whole.subtract(stays).pow(4).multiply(stays.pow(4 + extra));
                counts[n] = counts[n].multiply(BigInteger.valueOf(n == 2 ? 100 : 1));
                all = all.add(counts[n]);
            }
            int due = counts[0].multiply(BigInteger.valueOf(1000000)).divide(all).intValue();
            if (extra == 0) is(37, "by long numbers", x.likely(0), due);
            else is(38, "by the longest numbers", x.printed(0, 0, 4, 1), due);
        }
        is(37, "what can't be", x.likely(3), 0);
    }

    private static void streets() {
        SmokeRoom x = new SmokeRoom();
        is(42, "none", x.differs(), NONE);
        is(40, "street", x.street(7, 99, 1), 0);
        is(42, "nothing on one side", x.differs(), NONE);
        is(40, "things 8", x.street(8, 1, 0), -1);
        is(40, "things -1", x.street(-1, 1, 0), -1);
        is(40, "many 0", x.street(0, 0, 0), -1);
        is(40, "many 100", x.street(0, 100, 0), -1);
        is(40, "helped 2", x.street(0, 1, 2), -1);
        x.street(2, 10, 0);
        x.street(3, 20, 1);
        x.street(6, 30, 0);
        // Thing 0: 2 of 2 with, 0 of 2 without; thing 1: nothing without; thing 2: 1 of 2, 1 of 2.
        is(41, "with", x.streets(0, 1, 0), 2);
        is(41, "helped with", x.streets(0, 1, 1), 2);
        is(41, "people with", x.streets(0, 1, 2), 119);
        is(41, "without", x.streets(0, 0, 0), 2);
        is(41, "helped without", x.streets(0, 0, 1), 0);
        is(41, "people without", x.streets(0, 0, 2), 40);
        is(41, "thing 3", x.streets(3, 0, 0), NONE);
        is(41, "with 2", x.streets(0, 2, 0), NONE);
        is(41, "what 3", x.streets(0, 0, 3), NONE);
        is(41, "thing -1", x.streets(-1, 0, 0), NONE);
        is(42, "thing 0", x.differs(), 0);
        for (int s = 4; s < 40; s++) is(40, "more", x.street(4, 1, 1), s);
        // Thing 0: 2 of 2 and 36 of 38; thing 1: 2 of 4 and 36 of 36; thing 2: 37 of 38 and 1 of 2.
        is(42, "thing 1", x.differs(), 1);
        is(40, "no room", x.street(0, 1, 0), -5);
        is(40, "the first in order", x.street(8, 1, 0), -1);
        is(40, "count", x.count(3), 40);
        SmokeRoom y = new SmokeRoom();
        y.street(6, 1, 1);
        y.street(0, 1, 0);
        is(42, "of alike ones the first", y.differs(), 1);
        SmokeRoom z = new SmokeRoom();
        z.street(4, 1, 0);
        z.street(0, 1, 0);
        is(42, "not apart at all", z.differs(), 2);
    }

    private static void windows() {
        SmokeRoom x = new SmokeRoom();
        is(44, "of none", x.tale(0, 0, 0, 0), 0);
        is(43, "window", x.window(9, 1, 1), 0);
        is(43, "cries 10", x.window(10, 0, 0), -1);
        is(43, "cries -1", x.window(-1, 0, 0), -1);
        is(43, "saw 2", x.window(0, 2, 0), -1);
        is(43, "rang 2", x.window(0, 0, 2), -1);
        is(43, "another", x.window(3, 1, 0), 1);
        is(44, "so", x.tale(2, 3, 2, 1), 0);
        is(44, "two of 4", x.tale(2, 4, 2, 1), 1);
        is(44, "one of 4", x.tale(1, 4, 2, 1), 0);
        is(44, "one saw", x.tale(0, 0, 1, 1), 2);
        is(44, "three saw", x.tale(0, 0, 3, 1), 2);
        is(44, "none rang", x.tale(0, 0, 2, 0), 4);
        is(44, "forty rang", x.tale(0, 0, 2, 40), 0);
        is(44, "all wrong", x.tale(40, 0, 40, 0), 7);
        is(44, "heard 41", x.tale(41, 0, 0, 0), NONE);
        is(44, "heard -1", x.tale(-1, 0, 0, 0), NONE);
        is(44, "cries 10", x.tale(0, 10, 0, 0), NONE);
        is(44, "cries -1", x.tale(0, -1, 0, 0), NONE);
        is(44, "saw 41", x.tale(0, 0, 41, 0), NONE);
        is(44, "rang 41", x.tale(0, 0, 0, 41), NONE);
        for (int w = 2; w < 40; w++) is(43, "more", x.window(0, 0, 1), w);
        is(43, "no room", x.window(0, 0, 0), -5);
        is(43, "the first in order", x.window(0, 0, 2), -1);
        is(43, "count", x.count(4), 40);
        is(44, "39 rang", x.tale(40, 0, 2, 39), 0);
    }

    private static void images() {
        SmokeRoom x = Tape.room(2, 3, "go 11; hold 1");
        is(46, "not kept", x.back(0), -2);
        is(46, "2", x.back(2), -1);
        is(46, "-1", x.back(-1), -1);
        is(45, "2", x.image(2), -1);
        is(45, "-1", x.image(-1), -1);
        x.use(4);
        x.people(1);
        x.person(0, 1, 5);
        x.paid(0, 2, 2);
        x.sees(0, 0, 3);
        x.sees(0, 1, 5);
        x.ask(0, 4);
        x.friends(0, 1, 1);
        x.size(0, 42);
        x.weigh(0, 7);
        x.trial(1, 1);
        x.street(1, 2, 1);
        x.window(1, 1, 1);
        is(45, "image", x.image(1), 0);
        x.use(0);
        x.people(5);
        x.person(0, 1, 6);
        x.friends(0, 1, 0);
        x.lasts(9);
        x.size(0, 43);
        Tape.law(x, "go 22");
        x.weigh(0, 8);
        x.force(1);
        x.trial(1, 1);
        x.street(1, 2, 1);
        x.window(1, 1, 1);
        x.use(4);
        x.paid(0, 0, 0);
        x.sees(0, 0, 4);
        x.sees(0, 1, 6);
        x.ask(0, NONE);
        x.use(5);
        x.run(1);
        int went = x.went(0);
        Tape.law(x, "go");
        Tape.put(x, "abc");
        int refused = x.count(9);
        is(46, "back", x.back(1), 0);
        is(46, "tape", x.count(5), 3);
        is(46, "fault", x.fault(), 2);
        is(46, "world", x.went(0), went);
        is(46, "refusals", x.count(9), refused);
        is(46, "use", x.count(10), 4);
        is(46, "force", x.count(11), 0);
        is(46, "laws", x.count(1), 1);
        is(46, "trials", x.count(2), 1);
        is(46, "streets", x.count(3), 1);
        is(46, "windows", x.count(4), 1);
        is(46, "afraid", x.person(0, 1, 0), 5);
        is(46, "paid", x.paid(0, 0, 0), 2);
        is(46, "sees", x.sees(0, 0, 0), 3);
        is(46, "hears", x.sees(0, 1, 0), 5);
        is(46, "asked", x.ask(0, NONE), 4);
        is(46, "friends", x.friends(0, 1, 0), 1);
        is(46, "lasts", x.lasts(12), 3);
        is(46, "size", x.size(0, 0), 42);
        is(46, "weight", x.weigh(0, 1), 7);
        x.use(0);
        is(46, "people", x.count(0), 2);
        is(46, "a law again", Tape.law(x, "go 33"), 1);
        is(46, "its weight", x.weigh(1, 5), 1);
        x.force(1);
        is(46, "its chance", x.chance(0, 0, 0, 0), 33);
        is(46, "the other is not kept", x.back(0), -2);
        is(46, "images stay", x.back(1), 0);
        is(46, "use again", x.count(10), 4);
        x.use(0);
        is(46, "the law's chance", x.chance(0, 0, 0, 0), 10);
        is(45, "the other", x.image(0), 0);
        x.use(2);
        is(45, "anew", x.image(1), 0);
        x.back(0);
        is(46, "the other", x.count(10), 0);
        x.back(1);
        is(46, "the newer one", x.count(10), 2);
    }

    /** A TEXT that is read but wrong must not touch a LAW that an IMAGE or the room still has. */
    private static void lawsOverLaws() {
        SmokeRoom x = Tape.room(1, 1, "go 11");
        x.image(0);
        Tape.law(x, "go 22");
        x.force(1);
        x.image(1);
        x.back(0);
        Tape.law(x, "go 44; hold 4");
        Tape.law(x, "go 55 if");
        x.force(1);
        is(46, "the new second", x.chance(0, 0, 0, 0), 40);
        is(17, "its reasons", x.reasons(1), 1);
        x.back(1);
        is(46, "the old second", x.chance(0, 0, 0, 0), 22);
        is(17, "its reasons", x.reasons(1), 0);
    }

    /** What was noted first comes back as it was, not only how many there were. */
    private static void rowsOverRows() {
        SmokeRoom x = new SmokeRoom();
        x.image(0);
        x.street(1, 11, 1);
        x.window(9, 1, 1);
        x.image(1);
        x.back(0);
        x.street(2, 22, 0);
        x.window(1, 0, 0);
        x.back(1);
        is(46, "the street's people", x.streets(0, 1, 2), 11);
        is(46, "the street's help", x.streets(0, 1, 1), 1);
        is(46, "the window", x.tale(1, 9, 1, 0), 4);
        SmokeRoom y = Tape.room(1, 1, "go 20");
        Tape.law(y, "go 60");
        y.image(0);
        y.trial(0, 1);
        y.image(1);
        y.back(0);
        y.trial(0, 0);
        is(46, "the other trial", y.likely(0), 666666);
        y.back(1);
        is(46, "the trial", y.likely(0), 250000);
    }

    private static void countsAndStatus() {
        SmokeRoom x = new SmokeRoom();
        is(47, "12", x.count(12), NONE);
        is(47, "-1", x.count(-1), NONE);
        int minus = 0;
        int[] refused = {x.use(9), x.people(9), x.person(9, 9, 9), x.paid(9, 9, 9), x.sees(9, 9, 9), x.ask(9, 99),
            x.friends(9, 9, 9), x.lasts(99), x.size(99, 999), x.run(-9), x.trial(9, 9), x.weigh(9, 999),
            x.street(9, 999, 9), x.window(99, 9, 9), x.image(9), x.back(9)};
        for (int r : refused) minus += r == -1 ? 1 : 0;
        is(47, "all of them", minus, 16);
        is(47, "by -1", x.count(6), 16);
        is(47, "by -2", x.count(7), 0);
        is(48, "by -1", x.status(), -1);
        x.force(0);
        is(48, "by -2", x.status(), -2);
        x.feed(0, 0, 0, 0, 0);
        x.end(99);
        x.odds(9, 9);
        x.count(99);
        is(48, "others do not change it", x.status(), -2);
        x.law();
        is(48, "by -6", x.status(), -6);
        is(47, "by -6", x.count(9), 1);
        is(47, "by -2", x.count(7), 1);
        x.row();
        is(47, "by -6", x.count(9), 2);
        x.use(0);
        is(48, "by none", x.status(), 0);
        for (int t = 0; t < 9; t++) x.trial(0, 0);
        is(48, "by -5", x.status(), -5);
        is(47, "by -5", x.count(8), 1);
        x.image(0);
        is(48, "image", x.status(), 0);
        x.lasts(0);
        x.back(0);
        is(48, "back", x.status(), 0);
        is(47, "images do not keep that", x.count(6), 17);
        is(1, "NONE", SmokeRoom.NONE, -1);
    }

    public static void main(String[] args) {
        newObject();
        plans();
        persons();
        paid();
        seesAndAsks();
        friendsLastsSize();
        tape();
        laws();
        faults();
        limits();
        chances();
        chanceEdges();
        exactly();
        longNumbers();
        reasonsHold();
        partings();
        moves();
        movesWithNoneInForce();
        soonerWordsFew();
        worlds();
        trials();
        printed();
        longTrials();
        streets();
        windows();
        images();
        lawsOverLaws();
        rowsOverRows();
        countsAndStatus();
        System.out.println(looked - wrong + " answers are as due, " + wrong + " are not");
        if (wrong != 0) System.exit(1);
    }
}
