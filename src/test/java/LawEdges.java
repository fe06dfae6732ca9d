/** Edges of promises 11 to 18: the TAPE, ROWS, LAWS and what they tell of one who sits. */
final class LawEdges {
    private static final int NONE = SmokeRoom.NONE;
    private static final int[] FAR = {Integer.MIN_VALUE, -2, 500, Integer.MAX_VALUE};

    private LawEdges() {
    }

    static void look(Due d) {
        feed(d);
        feedFull(d);
        end(d);
        row(d);
        rowsOfBytes(d);
        smelt(d);
        law(d);
        fullOfLaws(d);
        fault(d);
        force(d);
        noneInForce(d);
        reasons(d);
        chance(d);
        chanceBits(d);
    }

    private static void feed(Due d) {
        SmokeRoom x = new SmokeRoom();
        d.says(11, "Twenty bytes come behind the TAPE, four of each number, the highest first: how many it has.");
        d.is("the first twenty", x.feed(0x676f2031, 0x32202020, 0x20202020, 0x20202020, 0x20202b20), 20);
        d.is("behind them", x.feed(0x33303b68, 0x6f6c6420, 0x37202020, 0x20202020, 0x20202020), 40);
        d.is("a law of both", x.law(), 0);
        x.force(0);
        x.people(1);
        d.is("go 12 + 30; hold 7", x.chance(0, 0, 0, 0), 35);
        d.is("bytes above 127", x.feed(-1, -1, -1, -1, -1), 20);
        d.refused("they are no law", x, x.law(), -6);
        d.is("nor its beginning", x.fault(), 0);
    }

    private static void feedFull(Due d) {
        SmokeRoom x = new SmokeRoom();
        for (int i = 0; i < 19; i++) x.feed(0x20202020, 0x20202020, 0x20202020, 0x20202020, 0x20202020);
        d.says(11, "NONE, if there would be more than 400.");
        d.is("full", x.feed(0x20202020, 0x20202020, 0x20202020, 0x20202020, 0x676f2035), 400);
        d.is("no more", x.feed(0, 0, 0, 0, 0), NONE);
        d.is("none the less", x.count(5), 400);
        d.is("no refusal", x.status(), 0);
        d.is("none is counted", x.count(6) + x.count(7) + x.count(8) + x.count(9), 0);
        d.is("the tape stays as it was: a law of 400 bytes", x.law(), 0);
        for (int i = 0; i < 20; i++) x.feed(0, 0, 0, 0, 0);
        d.is("all but 19", x.end(381), 381);
        d.is("one too many", x.feed(0, 0, 0, 0, 0), NONE);
        d.is("all but 20", x.end(380), 380);
        d.is("just so many", x.feed(0, 0, 0, 0, 0), 400);
    }

    private static void end(Due d) {
        SmokeRoom x = new SmokeRoom();
        d.says(12, "The TAPE has its first n bytes alone: n.");
        d.is("none of none", x.end(0), 0);
        x.feed(0x676f2035, 0x2b312020, 0x20202020, 0x20202020, 0x20202020);
        d.is("all that it has", x.end(20), 20);
        d.is("the first four", x.end(4), 4);
        d.is("so many it has", x.count(5), 4);
        d.is("twenty come behind them", x.feed(0x30202020, 0x20202020, 0x20202020, 0x20202020, 0x20202020), 24);
        d.is("a law", x.law(), 0);
        x.force(0);
        x.people(1);
        d.is("go 50, without what was cut off", x.chance(0, 0, 0, 0), 50);
        d.says(12, "NONE, if it has not so many, or n is below 0.");
        d.is("one of none", x.end(1), NONE);
        x.feed(1, 2, 3, 4, 5);
        d.is("one more than it has", x.end(21), NONE);
        d.is("below 0", x.end(-1), NONE);
        for (int far : FAR) d.is("far off", x.end(far), NONE);
        d.is("it has them all", x.count(5), 20);
        d.is("no refusal", x.status(), 0);
        d.is("none is counted", x.count(6) + x.count(7) + x.count(8) + x.count(9), 0);
        x.end(19);
        d.is("what was cut off is gone", x.end(20), NONE);
        d.is("none at all", x.end(0), 0);
        d.is("nothing left", x.count(5), 0);
    }

    private static void row(Due d) {
        SmokeRoom x = new SmokeRoom();
        d.says(13, "A ROW of the THING, the TAPE is empty then: how many SIZES were told (SMELT ones too).");
        x.feed(1, 100, -1, 4, 0);
        d.taken("five", x, x.row(), 5);
        d.is("the tape is empty", x.count(5), 0);
        d.says(13, "-6 the TAPE is empty, has more than 48 bytes.");
        d.refused("empty", x, x.row(), -6);
        for (int bytes = 49; bytes <= 400; bytes += 27) {
            fill(x, 7);
            x.end(bytes);
            d.refused(bytes + " bytes", x, x.row(), -6);
            d.is("the tape is empty then, too", x.count(5), 0);
        }
        fill(x, 7);
        d.refused("a full tape", x, x.row(), -6);
        d.is("counted", x.count(9), 16);
        int[] due = {1, 0, 0, 4, 0, 60};
        for (int g = 0; g < 6; g++) d.taken("sizes stay as they were", x, x.size(g, 8), due[g]);
        fill(x, 7);
        x.end(48);
        d.taken("48 bytes", x, x.row(), 12);
        for (int g = 0; g < 12; g++) d.taken("each of the twelve", x, x.size(g, 8), 7);
    }

    private static void fill(SmokeRoom x, int value) {
        x.end(0);
        for (int i = 0; i < 20; i++) x.feed(value, value, value, value, value);
    }

    private static void rowsOfBytes(Due d) {
        d.terms("A ROW of the THING: the TAPE's ints, four bytes each (the highest first): SIZES from GLANCE 0 on;");
        SmokeRoom x = new SmokeRoom();
        x.feed(11, 12, 13, 14, 15);
        x.row();
        int[] due = {11, 12, 13, 14, 15, 60, 70, 80, 90, 99, 99, 99};
        for (int g = 0; g < 12; g++) d.is("size at " + g, x.size(g, 8), due[g]);
        d.terms("if the TAPE ends within one, that one and those behind it stay.");
        for (int bytes = 1; bytes <= 48; bytes++) {
            SmokeRoom y = new SmokeRoom();
            fill(y, 5);
            y.end(bytes);
            d.taken(bytes + " bytes", y, y.row(), bytes / 4);
            int last = bytes / 4 - 1;
            if (last >= 0) d.is("the last whole one", y.size(last, 0), 5);
            if (last < 11) d.is("the one behind it", y.size(last + 1, 0), Math.min(99, 10 * last + 20));
            if (last < 10) d.is("the last of all", y.size(11, 0), 99);
        }
    }

    private static void smelt(Due d) {
        d.terms("one that can't be is SMELT: 0;");
        int[] cant = {100, -1, 256, 0x00000105, 0x00010005, 0x01000005, 0x10000005, 0x20000005, 0x40000005, 0x80000005,
            Integer.MIN_VALUE, Integer.MAX_VALUE};
        for (int value : cant) {
            SmokeRoom x = new SmokeRoom();
            x.feed(value, 99, 0, 1, value);
            d.taken("told", x, x.row(), 5);
            int[] due = {0, 99, 0, 1, 0};
            for (int g = 0; g < 5; g++) d.is(value + " at " + g, x.size(g, 8), due[g]);
        }
    }

    private static void law(Due d) {
        SmokeRoom x = new SmokeRoom();
        d.says(14, "The TAPE, which is empty then, becomes a LAW: its number.");
        d.taken("the first", x, Tape.law(x, "go 1"), 0);
        d.is("the tape is empty", x.count(5), 0);
        d.is("one law", x.count(1), 1);
        d.says(14, "-6 (blanks alone: FAULT at the end).");
        d.refused("nothing", x, x.law(), -6);
        d.is("the end of nothing", x.fault(), 0);
        for (int blanks = 1; blanks <= 400; blanks += 57) {
            d.refused("blanks", x, Tape.law(x, " ".repeat(blanks)), -6);
            d.is("the end of blanks", x.fault(), blanks);
            d.is("the tape is empty", x.count(5), 0);
        }
        d.refused("400 blanks", x, Tape.law(x, " ".repeat(400)), -6);
        d.is("the end of 400", x.fault(), 400);
        d.is("still one law", x.count(1), 1);
        d.is("counted", x.count(9), 10);
        d.taken("the second", x, Tape.law(x, "go 2"), 1);
    }

    private static void fullOfLaws(Due d) {
        SmokeRoom x = new SmokeRoom();
        d.terms("II. LAWS are TEXTS, 4 at most, on a TAPE of at most 400 bytes;");
        for (int n = 0; n < 4; n++) d.taken("law " + n, x, Tape.law(x, " ".repeat(395) + "go 1" + n), n);
        d.is("of 400 bytes", x.fault(), NONE);
        d.says(14, "-5 (ahead of reading it; the TAPE is empty then, too);");
        d.refused("a good text", x, Tape.law(x, "go 1"), -5);
        d.is("the tape is empty", x.count(5), 0);
        d.refused("a wrong text", x, Tape.law(x, "go go"), -5);
        d.is("the tape is empty after that", x.count(5), 0);
        d.refused("no text", x, x.law(), -5);
        d.is("it was not read", x.fault(), NONE);
        d.is("four", x.count(1), 4);
        d.is("counted", x.count(8), 3);
        d.is("and not as texts", x.count(9), 0);
        x.people(1);
        for (int n = 0; n < 4; n++) {
            x.force(n);
            d.is("each as it was", x.chance(0, 0, 0, 0), 10 + n);
        }
    }

    private static void fault(Due d) {
        SmokeRoom x = new SmokeRoom();
        d.says(15, "FAULT of the latest law() that read a TEXT: its place; NONE without.");
        d.is("ahead of any", x.fault(), NONE);
        Tape.law(x, "go 1 go");
        d.is("its place", x.fault(), 5);
        x.row();
        x.back(0);
        x.force(3);
        d.is("what else is refused does not matter", x.fault(), 5);
        Tape.law(x, "x");
        d.is("the latest one's", x.fault(), 0);
        Tape.law(x, "go 1");
        d.is("none", x.fault(), NONE);
        Tape.law(x, "go 1;");
        d.is("at the end", x.fault(), 5);
        for (int n = 0; n < 3; n++) Tape.law(x, "go 1");
        Tape.law(x, "go go");
        d.is("the fifth is not read", x.fault(), NONE);
        SmokeRoom y = new SmokeRoom();
        y.image(0);
        for (int n = 0; n < 4; n++) Tape.law(y, "go 1");
        y.image(1);
        y.back(0);
        Tape.law(y, "go 1 1");
        y.back(1);
        Tape.law(y, "go");
        d.is("a fault stays when the next is not read", y.fault(), 5);
    }

    private static void force(Due d) {
        SmokeRoom x = new SmokeRoom();
        d.says(16, "A LAW is in FORCE (NONE: none): which was. -2.");
        d.refused("the first of none", x, x.force(0), -2);
        d.taken("none", x, x.force(NONE), NONE);
        for (int n = 0; n < 4; n++) {
            d.refused("not yet", x, x.force(n), -2);
            Tape.law(x, "go 1");
            d.taken("the newest", x, x.force(n), n - 1);
        }
        d.refused("4", x, x.force(4), -2);
        for (int far : FAR) d.refused("far off", x, x.force(far), -2);
        d.is("the last stays in force", x.count(11), 3);
        d.is("counted by -2", x.count(7), 10);
        d.is("none by -1", x.count(6), 0);
        d.taken("none again", x, x.force(NONE), 3);
        d.taken("the first", x, x.force(0), NONE);
    }

    private static void noneInForce(Due d) {
        SmokeRoom x = new SmokeRoom();
        Tape.law(x, "go 100");
        x.people(3);
        x.paid(1, 2, 3);
        x.paid(2, 1, 0);
        d.terms("one is in FORCE (NONE at first: nobody goes who is not PAID to).");
        d.is("none at first", x.count(11), NONE);
        d.is("nobody", x.odds(0, 6), 0);
        d.is("not ahead", x.odds(NONE, 3), 0);
        d.is("who is paid to", x.odds(NONE, 4), 1000000);
        d.is("who is paid to stay", x.odds(2, 6), 0);
        d.is("by draws", x.run(0), 2);
        x.force(0);
        d.is("by a law", x.odds(0, 1), 1000000);
        x.force(NONE);
        d.is("by none again", x.odds(0, 6), 0);
    }

    private static void reasons(Due d) {
        SmokeRoom x = new SmokeRoom();
        d.says(17, "How many REASONS a LAW has; NONE.");
        d.is("no law", x.reasons(0), NONE);
        Tape.law(x, "go 1;go 2");
        Tape.law(x, "hold 1" + ";hold 1".repeat(11));
        Tape.law(x, "hold 1" + ";go 1".repeat(10) + ";hold 2");
        d.is("none", x.reasons(0), 0);
        d.is("twelve", x.reasons(1), 12);
        d.is("the first and the last", x.reasons(2), 2);
        d.is("not yet a law", x.reasons(3), NONE);
        Tape.law(x, "hold 1");
        d.is("the fourth", x.reasons(3), 1);
        d.is("4", x.reasons(4), NONE);
        d.is("-1", x.reasons(-1), NONE);
        for (int far : FAR) d.is("far off", x.reasons(far), NONE);
    }

    private static void chance(Due d) {
        SmokeRoom x = Tape.room(5, 1, "go glance + 20 * skill");
        x.person(4, 2, 3);
        d.says(18, "CHANCE of a PERSON of the PLAN in USE who sits at a GLANCE, if these (bits) STIR and these are GONE");
        d.is("the last person at the last glance", x.chance(4, 11, 0, 0), 71);
        d.is("the first at the first", x.chance(0, 0, 0, 0), 0);
        d.is("glance 12", x.chance(0, 12, 0, 0), NONE);
        d.is("glance -1", x.chance(0, -1, 0, 0), NONE);
        d.is("person 5", x.chance(5, 0, 0, 0), NONE);
        d.is("person -1", x.chance(-1, 0, 0, 0), NONE);
        for (int far : FAR) {
            d.is("a person far off", x.chance(far, 0, 0, 0), NONE);
            d.is("a glance far off", x.chance(0, far, 0, 0), NONE);
            d.is("what stirs far off", x.chance(0, 0, far, 0), NONE);
            d.is("what is gone far off", x.chance(0, 0, 0, far), NONE);
        }
        x.people(4);
        d.is("not there", x.chance(4, 0, 0, 0), NONE);
        d.is("there", x.chance(3, 1, 0, 0), 1);
        x.use(1);
        d.is("in an empty plan", x.chance(0, 0, 0, 0), NONE);
        d.says(18, "NONE.");
        d.is("no refusal", x.status(), 0);
        d.is("none is counted", x.count(6), 0);
    }

    private static void chanceBits(Due d) {
        SmokeRoom x = Tape.room(4, 1, "go still + 10 * stirs + 30 * gone");
        d.says(18, "(itself, both at once, PERSONS that are not there count for nothing: they sit).");
        d.is("none", x.chance(0, 0, 0, 0), 3);
        d.is("itself stirs", x.chance(0, 0, 1, 0), 3);
        d.is("itself is gone", x.chance(0, 0, 0, 1), 3);
        d.is("one both at once", x.chance(0, 0, 2, 2), 3);
        d.is("one not there stirs", x.chance(0, 0, 16, 0), 3);
        d.is("one not there is gone", x.chance(0, 0, 0, 16), 3);
        d.is("all stir", x.chance(0, 0, 31, 0), 30);
        d.is("all are gone", x.chance(0, 0, 0, 31), 90);
        d.is("all both at once", x.chance(0, 0, 31, 31), 3);
        d.is("one each way, one both at once", x.chance(0, 0, 6, 12), 41);
        d.is("32 stirs", x.chance(0, 0, 32, 0), NONE);
        d.is("32 is gone", x.chance(0, 0, 0, 32), NONE);
        d.is("-1 stirs", x.chance(0, 0, -1, 0), NONE);
        d.is("-1 is gone", x.chance(0, 0, 0, -1), NONE);
        d.is("32 both at once", x.chance(0, 0, 32, 32), NONE);
    }
}
