/** Edges of Terms II: how TEXTS are read, what their words tell, what breaks them. */
final class TextEdges {
    private static final int NONE = SmokeRoom.NONE;
    private static final String[] WORDS = {"size", "still", "stirs", "gone", "heard", "friends", "glance", "kind",
        "afraid", "skill", "asked", "alone"};

    private TextEdges() {
    }

    static void look(Due d) {
        tokens(d);
        otherBytes(d);
        clauses(d);
        oneClause(d);
        tests(d);
        sums(d);
        parts(d);
        words(d);
        limits(d);
        manyTexts(d);
        ends(d);
        whoSits(d);
        whomItSees(d);
        brokenSums(d);
        brokenTests(d);
        chances(d);
        reasons(d);
        paid(d);
    }

    /** Read anew each time; a place of NONE means that it becomes a LAW. */
    private static void fault(Due d, String text, int place) {
        SmokeRoom x = new SmokeRoom();
        d.is("'" + text + "'", Tape.law(x, text), place == NONE ? 0 : -6);
        d.is("FAULT of '" + text + "'", x.fault(), place);
    }

    /** CHANCE of PERSON 0 of three, at GLANCE 2, while 1 STIRS and 2 is GONE. */
    private static void chance(Due d, String text, int due) {
        SmokeRoom x = Tape.room(3, 6, text);
        d.is("'" + text + "'", x.chance(0, 2, 2, 4), due);
    }

    private static void tokens(Due d) {
        d.terms("TOKENS: longest rows of letters a .. z, of digits, single other bytes, any blanks (32) between.");
        fault(d, "go1", NONE);
        fault(d, "  go  1  ", NONE);
        fault(d, "go1if1=1", NONE);
        fault(d, "go 1if 1=1or 2=2and 3=3", NONE);
        fault(d, "go[1]if(1=1)", NONE);
        fault(d, "g o 1", 0);
        fault(d, "gogo 1", 0);
        fault(d, "go sizestill", 3);
        fault(d, "go size still", 8);
        fault(d, "go 1 2", 5);
        fault(d, "go 10 00", 6);
        fault(d, "go 1 if 1=1orsize=1", 11);
        fault(d, "go 1 ifnot 1=1", 5);
        fault(d, "go 1 if 1==1", 10);
        fault(d, "go 1 if 1<>1", 10);
        fault(d, "go 1--1", 5);
    }

    private static void otherBytes(Due d) {
        d.terms("TOKENS: longest rows of letters a .. z, of digits, single other bytes, any blanks (32) between.");
        for (int sign = 0; sign < 256; sign++) {
            boolean figure = sign >= '0' && sign <= '9';
            boolean letter = sign >= 'a' && sign <= 'z';
            fault(d, "go 1" + (char) sign, figure || sign == ' ' ? NONE : "+-*/;".indexOf(sign) >= 0 ? 5 : 4);
            fault(d, (char) sign + "go 1", sign == ' ' ? NONE : 0);
            fault(d, "go" + (char) sign + "1", figure || sign == ' ' ? NONE : letter ? 0 : sign == '[' ? 4 : 2);
        }
    }

    private static void clauses(Due d) {
        d.terms("CLAUSE {\";\" CLAUSE}, 12 at most (FAULT at the 13th's first TOKEN).");
        String eleven = "go 1;".repeat(11);
        fault(d, eleven + "go 1", NONE);
        fault(d, eleven + "hold 1 if 1=1 ", NONE);
        fault(d, eleven + "go 1;go 1", 60);
        fault(d, eleven + "go 1;  hold 1", 62);
        fault(d, eleven + "go 1; x", 61);
        fault(d, eleven + "go 1;", 60);
        fault(d, eleven + "go 1;  ", 62);
        fault(d, eleven + "go 1 go 1", 60);
        fault(d, "go 1;;go 1", 5);
        fault(d, ";go 1", 0);
        fault(d, "go 1;", 5);
        fault(d, "go 1 ; ", 7);
        SmokeRoom x = Tape.room(1, 1, eleven + "go 12");
        d.is("the twelfth is told", x.chance(0, 0, 0, 0), 12);
    }

    private static void oneClause(Due d) {
        d.terms("CLAUSE: (\"go\" | \"hold\") SUM [\"if\" TEST].");
        fault(d, "go 1", NONE);
        fault(d, "hold 1", NONE);
        fault(d, "go 1 if 1=1", NONE);
        fault(d, "1", 0);
        fault(d, "if 1=1", 0);
        fault(d, "go", 2);
        fault(d, "hold ", 5);
        fault(d, "go if 1=1", 3);
        fault(d, "go 1 if", 7);
        fault(d, "go 1 if ;", 8);
        fault(d, "go 1 if 1=1 if 1=1", 12);
        fault(d, "go 1 hold 1", 5);
        fault(d, "go go 1", 3);
        fault(d, "go 1 = 1", 5);
        fault(d, "go (1)", 3);
        fault(d, "go not 1", 3);
        fault(d, "go 1 or 1", 5);
    }

    private static void tests(Due d) {
        d.terms("TEST: BOTH {\"or\" BOTH}. BOTH: PLAIN {\"and\" PLAIN}."
            + " PLAIN: \"not\" PLAIN | \"(\" TEST \")\" | SUM (\"<\" | \">\" | \"=\") SUM.");
        fault(d, "go 1 if 1=1 or 1<1 and 1>1 or not 1=1 and (1=1 or 1=1)", NONE);
        fault(d, "go 1 if or 1=1", 8);
        fault(d, "go 1 if and 1=1", 8);
        fault(d, "go 1 if 1=1 or", 14);
        fault(d, "go 1 if 1=1 and", 15);
        fault(d, "go 1 if 1=1 or or 1=1", 15);
        fault(d, "go 1 if 1=1 and or 1=1", 16);
        fault(d, "go 1 if 1=1 not 1=1", 12);
        fault(d, "go 1 if not", 11);
        fault(d, "go 1 if not not", 15);
        fault(d, "go 1 if not;", 11);
        fault(d, "go 1 if 1", 9);
        fault(d, "go 1 if 1+1", 11);
        fault(d, "go 1 if 1 and 1=1", 10);
        fault(d, "go 1 if 1<", 10);
        fault(d, "go 1 if 1<1<1", 11);
        fault(d, "go 1 if <1", 8);
        fault(d, "go 1 if ()", 9);
        fault(d, "go 1 if (1)", 10);
        fault(d, "go 1 if (1=1", 12);
        fault(d, "go 1 if (1=1]", 12);
        fault(d, "go 1 if (1=1))", 13);
        fault(d, "go 1 if (1=1)=1", 13);
        fault(d, "go 1 if (1=1) (1=1)", 14);
        fault(d, "go 1 if 1=(1)", 10);
        fault(d, "go 1 if 1=not 1", 10);
        fault(d, "go 1 if not(1=1)and not not(1=1)", NONE);
    }

    private static void sums(Due d) {
        d.terms("SUM: TERM {(\"+\" | \"-\") TERM}. TERM: PART {(\"*\" | \"/\") PART}.");
        fault(d, "go 1+2-3*4/5", NONE);
        fault(d, "go +1", 3);
        fault(d, "go -1", 3);
        fault(d, "go *1", 3);
        fault(d, "go /1", 3);
        fault(d, "go 1+", 5);
        fault(d, "go 1- ", 6);
        fault(d, "go 1*", 5);
        fault(d, "go 1/", 5);
        fault(d, "go 1+*1", 5);
        fault(d, "go 1/-1", 5);
        fault(d, "go 1 if 1=1+", 12);
        fault(d, "go 1 if -1=1", 8);
        chance(d, "go 20-8-4", 8);
        chance(d, "go 24/4/3", 2);
        chance(d, "go 24/4*3", 18);
        chance(d, "go 2*3+4*5", 26);
        chance(d, "go 30-2*3", 24);
        chance(d, "go 30-[2-3]", 31);
        chance(d, "go [30-2]*3", 84);
    }

    private static void parts(Due d) {
        d.terms("PART: NUMBER (to 1,000) | \"[\" SUM \"]\" | \"size\" | \"still\" | \"stirs\" | \"gone\" | \"heard\" | \"friends\""
            + " | \"glance\" | \"kind\" | \"afraid\" | \"skill\" | \"asked\" | \"alone\".");
        fault(d, "go 0", NONE);
        fault(d, "go 1000", NONE);
        fault(d, "go 1001", 3);
        fault(d, "go 1010", 3);
        fault(d, "go 2000", 3);
        fault(d, "go 10000", 3);
        fault(d, "go 4294967296", 3);
        fault(d, "go 4294967297", 3);
        fault(d, "go 18446744073709551617", 3);
        fault(d, "go " + "9".repeat(397), 3);
        fault(d, "go " + "0".repeat(397), NONE);
        fault(d, "go " + "0".repeat(393) + "1000", NONE);
        fault(d, "go " + "0".repeat(393) + "1001", 3);
        fault(d, "hold 1 if size<1001", 15);
        fault(d, "go []", 4);
        fault(d, "go [1", 5);
        fault(d, "go [1)", 5);
        fault(d, "go [1=1]", 5);
        fault(d, "go 1]", 4);
        fault(d, "go [1]]", 6);
        fault(d, "go [1][1]", 6);
        fault(d, "go if", 3);
        fault(d, "go friend", 3);
        chance(d, "go 1000/10-99", 1);
        chance(d, "go 0099", 99);
    }

    /** Each letter of each word counts, the first and the last too. */
    private static void words(Due d) {
        d.terms("\"size\" | \"still\" | \"stirs\" | \"gone\" | \"heard\" | \"friends\"");
        for (String word : WORDS) {
            fault(d, "go " + word, NONE);
            fault(d, "go " + word + "s", 3);
            fault(d, "go x" + word, 3);
            fault(d, "go " + word.substring(1), 3);
            fault(d, "go " + word.substring(0, word.length() - 1), 3);
            for (int i = 0; i < word.length(); i++) fault(d, "go " + changed(word, i), 3);
        }
        String[][] around = {{"", "go", " 1"}, {"", "hold", " 1"}, {"go 1 ", "if", " 1=1"}, {"go 1 if ", "not", " 1=1"},
            {"go 1 if 1=1 ", "or", " 1=1"}, {"go 1 if 1=1 ", "and", " 1=1"}};
        for (String[] a : around) {
            fault(d, a[0] + a[1] + a[2], NONE);
            for (int i = 0; i < a[1].length(); i++) fault(d, a[0] + changed(a[1], i) + a[2], a[0].length());
            fault(d, a[0] + a[1].toUpperCase() + a[2], a[0].length());
        }
    }

    private static String changed(String word, int at) {
        return word.substring(0, at) + "q" + word.substring(at + 1);
    }

    private static void limits(Due d) {
        d.terms("50 PARTS that are NUMBERS and words (FAULT at the 51st),");
        fault(d, "go 1" + "+1".repeat(49), NONE);
        fault(d, "go 1" + "+1".repeat(50), 103);
        fault(d, "go [1]" + "+[1]".repeat(49), NONE);
        fault(d, "go [1]" + "+[1]".repeat(49) + "+[size]", 204);
        fault(d, "go 1" + "+1".repeat(49) + " if 1=1", 106);
        fault(d, "go 1" + "+1".repeat(48) + " if 1=1", 106);
        fault(d, "go 1" + "+1".repeat(47) + " if 1=1", NONE);
        fault(d, "go 1" + "+1".repeat(47) + " if 1=size+1", 109);
        fault(d, "go 1" + "+1".repeat(49) + ";hold gone", 108);
        fault(d, "go 1" + "+1".repeat(48) + ";hold gone", NONE);
        fault(d, "go 1" + "+1".repeat(49) + "+[", 104);
        fault(d, "go 1" + "+1".repeat(49) + "+1001", 103);
        chance(d, "go 1" + "+1".repeat(49), 50);
        chance(d, "go [" + "1+[".repeat(7) + "1" + "]".repeat(8), 8);
        d.terms("8 brackets of both kinds within one another (FAULT at the 9th) at most.");
        fault(d, "go " + "[".repeat(8) + "1" + "]".repeat(8), NONE);
        fault(d, "go " + "[".repeat(9) + "1" + "]".repeat(9), 11);
        fault(d, "go " + "[1]+".repeat(20) + "[".repeat(8) + "1" + "]".repeat(8), NONE);
        fault(d, "go 1 if " + "(".repeat(8) + "1=1" + ")".repeat(8), NONE);
        fault(d, "go 1 if " + "(".repeat(9) + "1=1" + ")".repeat(9), 16);
        fault(d, "go 1 if " + "not(".repeat(8) + "1=1" + ")".repeat(8), NONE);
        fault(d, "go 1 if " + "not(".repeat(9) + "1=1" + ")".repeat(9), 43);
        fault(d, "go 1 if " + "(".repeat(7) + "[1]=[1]" + ")".repeat(7), NONE);
        fault(d, "go 1 if " + "(".repeat(7) + "1=[[1]]" + ")".repeat(7), 18);
        fault(d, "go 1 if " + "(".repeat(8) + "[1]=1" + ")".repeat(8), 16);
        fault(d, "go 1 if " + "(".repeat(8) + "1=1" + ")".repeat(8) + "or" + "(".repeat(8) + "1=1" + ")".repeat(8), NONE);
        fault(d, "go 1 if 1=1 and " + "(".repeat(4) + "[".repeat(5), 24);
    }

    /** What one TEXT has used up, another one has anew, whether it was good or not. */
    private static void manyTexts(Due d) {
        d.terms("50 PARTS that are NUMBERS and words (FAULT at the 51st),");
        SmokeRoom x = new SmokeRoom();
        x.people(1);
        String fifty = "go 1" + "+1".repeat(49);
        for (int i = 0; i < 20; i++) {
            d.is("a text of 50, but not at its end", Tape.law(x, fifty + ";"), -6);
            d.is("there", x.fault(), 103);
        }
        d.is("of 50 parts", Tape.law(x, fifty), 0);
        d.is("of 12 clauses", Tape.law(x, "hold 2" + ";go 30".repeat(11)), 1);
        d.is("of one", Tape.law(x, "go 70"), 2);
        int[] due = {50, 28, 70};
        for (int n = 0; n < 3; n++) {
            x.force(n);
            d.is("its chance", x.chance(0, 0, 0, 0), due[n]);
        }
        d.is("no reason of the one ahead", x.reasons(2), 0);
    }

    private static void ends(Due d) {
        d.terms("FAULT: the first TOKEN that can't go on there (the end's: the TEXT's length).");
        String whole = "go [ 1 + size ] if not ( 1 = 2 )";
        for (int n = 0; n <= whole.length(); n++) {
            String text = whole.substring(0, n);
            String cut = text.trim();
            boolean good = cut.equals("go [ 1 + size ]") || n == whole.length();
            boolean word = cut.matches(".*(g|s|si|siz|i|n|no)");
            fault(d, text, good ? NONE : word ? cut.lastIndexOf(' ') + 1 : n);
        }
        fault(d, "go 1 x y", 5);
        fault(d, " ".repeat(397) + "go ", 400);
        fault(d, " ".repeat(398) + "x ", 398);
        fault(d, " ".repeat(399) + "x", 399);
        fault(d, "go 1" + " ".repeat(395) + ";", 400);
        fault(d, "go 1" + " ".repeat(394) + "ab", 398);
    }

    private static void whoSits(Due d) {
        SmokeRoom x = Tape.room(3, 4, "go 100 if skill = 1 and stirs = 1; go 100 if skill = 2 and gone = 1 and stirs = 1");
        x.person(1, 2, 1);
        x.person(2, 2, 2);
        x.paid(0, 2, 0);
        d.terms("It is asked of a PERSON who sits, at a GLANCE. Each PERSON of the PLAN sits, or STIRS (went at the GLANCE"
            + " before this one), or is GONE (went earlier).");
        d.is("all go", x.run(0), 7);
        d.is("the first at once", x.went(0), 0);
        d.is("at the glance behind it one stirs", x.went(1), 1);
        d.is("at the next it is gone", x.went(2), 2);
        d.is("exactly so, not within 1", x.odds(1, 1), 0);
        d.is("exactly so, within 2", x.odds(1, 2), 1000000);
        d.is("exactly so, not within 2", x.odds(2, 2), 0);
        d.is("exactly so, within 3", x.odds(2, 3), 1000000);
    }

    private static void sees(Due d, String what, String law, int stirs, int gone, int due) {
        SmokeRoom x = Tape.room(4, 6, law);
        x.sees(0, 0, 7);
        x.sees(0, 1, 9);
        x.friends(0, 1, 1);
        x.friends(0, 3, 1);
        x.friends(1, 2, 1);
        x.ask(0, 2);
        x.person(0, 0, 7);
        x.person(0, 1, 8);
        x.person(0, 2, 9);
        d.is(what, x.chance(0, 2, stirs, gone), due);
    }

    private static void whomItSees(Due d) {
        d.terms("still, stirs, gone: how many of those whom it SEES are so; heard: how many whom it HEARS STIR;"
            + " friends: how many FRIENDS whom it SEES STIR or are GONE; size of the THING at the GLANCE; glance: its number;"
            + " kind, afraid, skill: its own;");
        sees(d, "two still", "go still", 0, 0, 2);
        sees(d, "no more still", "go still", 2, 4, 0);
        sees(d, "two stir", "go stirs", 14, 0, 2);
        sees(d, "two are gone", "go gone", 0, 14, 2);
        sees(d, "one of each", "go stirs*10+gone", 2, 4, 11);
        sees(d, "one is heard", "go heard", 14, 0, 1);
        sees(d, "who is gone is not heard", "go heard", 0, 14, 0);
        sees(d, "a friend stirs", "go friends", 14, 0, 1);
        sees(d, "a friend is gone", "go friends", 0, 14, 1);
        sees(d, "a friend sits", "go friends", 4, 8, 0);
        sees(d, "size", "go size", 0, 0, 30);
        sees(d, "glance", "go glance", 0, 0, 2);
        sees(d, "kind, afraid, skill", "go kind*10+afraid+skill", 0, 0, 87);
        d.terms("asked: 1 if it is ASKED from this GLANCE or an earlier one on, else 0;"
            + " alone: 1 if it SEES none of the PLAN, else 0.");
        SmokeRoom x = Tape.room(2, 1, "go asked*10+alone");
        x.ask(0, 3);
        d.is("ahead", x.chance(0, 2, 0, 0), 0);
        d.is("from this glance", x.chance(0, 3, 0, 0), 10);
        d.is("from an earlier one", x.chance(0, 4, 0, 0), 10);
        d.is("not at all", x.chance(1, 11, 0, 0), 0);
        x.sees(0, 0, 29);
        d.is("only itself and those not there", x.chance(0, 0, 0, 0), 1);
        x.people(3);
        d.is("one more is there", x.chance(0, 0, 0, 0), 0);
        d.is("who went is seen too", x.chance(0, 0, 0, 4), 0);
        x.people(1);
        d.is("nobody else is there", x.chance(0, 0, 0, 0), 1);
    }

    private static void brokenSums(Due d) {
        d.terms("Beyond 1,000,000,000 either way, or divided by 0, a SUM, a TEST is BROKEN; / is cut towards 0.");
        chance(d, "go 7; go 20 if 1000*1000*1000=1000*1000*1000", 20);
        chance(d, "go 7; go 20 if 1000*1000*1000+1>0", 7);
        chance(d, "go 7; go 20 if 0-1000*1000*1000<0", 20);
        chance(d, "go 7; go 20 if 0-1000*1000*1000-1<0", 7);
        chance(d, "go 7; go 20 if 1000*1000*1000*[0-1]<0", 20);
        chance(d, "go 7; go 20 if 999*1000*1000*2>0", 7);
        chance(d, "go 7; go 20 if 1000*1000*1000+1-1>0", 7);
        chance(d, "go 7; go 1000*1000*1000", 100);
        chance(d, "go 7; go 1000*1000*1000+1", 7);
        chance(d, "go 7; go 0-1000*1000*1000", 0);
        chance(d, "go 7; go 0-1000*1000*1000-1", 7);
        chance(d, "go 50; hold 1000*1000*1000+1", 50);
        chance(d, "go 7; go 1000" + "*1000".repeat(40), 7);
        chance(d, "go 7; go 1000" + "*1000".repeat(40) + "*0", 7);
        chance(d, "go 7; go 5/0", 7);
        chance(d, "go 7; go 0/0", 7);
        chance(d, "go 7; go 5/[1-1]", 7);
        chance(d, "go 7; go 0*[5/0]", 7);
        chance(d, "go 7; go 20 if 5/0=0", 7);
        chance(d, "go 7/2", 3);
        chance(d, "go 10+[0-7]/2", 7);
        chance(d, "go 10+7/[0-2]", 7);
        chance(d, "go 10+[0-7]/[0-2]", 13);
        chance(d, "go 10+[0-1]/2", 10);
        chance(d, "go 1/1000", 0);
    }

    private static void brokenTests(Due d) {
        d.terms("A CLAUSE HOLDS, if its \"if\" (if it has one) is so, and neither that nor its SUM is BROKEN (\"or\", \"and\" ask what"
            + " stands behind only if it can still matter).");
        chance(d, "go 7; go 20", 20);
        chance(d, "go 7; go 20 if 1=1", 20);
        chance(d, "go 7; go 20 if 1=2", 7);
        chance(d, "go 7; go 20/0 if 1=1", 7);
        chance(d, "go 7; go 20 if 1/0=1", 7);
        chance(d, "go 7; go 20 if not 1/0=1", 7);
        chance(d, "go 7; go 20 if not not 1/0=1", 7);
        chance(d, "go 7; go 20 if 1=1 or 1/0=1", 20);
        chance(d, "go 7; go 20 if 1=2 or 1/0=1", 7);
        chance(d, "go 7; go 20 if 1/0=1 or 1=1", 7);
        chance(d, "go 7; go 20 if not(1=2 and 1/0=1)", 20);
        chance(d, "go 7; go 20 if not(1=1 and 1/0=1)", 7);
        chance(d, "go 7; go 20 if 1=2 and 1/0=1 or 1=1", 20);
        chance(d, "go 7; go 20 if 1=1 or 1=1 and 1/0=1", 20);
        chance(d, "go 7; go 20 if 1=1 or 1/0=1 or 1/0=1", 20);
        chance(d, "go 7; go 20 if not(1=2 and 1/0=1 and 1/0=1)", 20);
        chance(d, "go 7; go 20 if (1=1 or 1/0=1) and 1=1", 20);
        chance(d, "go 7; go 20 if (1=1 or 1/0=1) and 1/0=1", 7);
        chance(d, "go 7; go 20 if (1=2 and 1/0=1) or 1/0=1", 7);
        chance(d, "go 7; go 20 if not(not 1=1 or 1=2) and (1=2 or 2=2)", 20);
        chance(d, "go 7; go 20 if not 1=1 and 1=1", 7);
        chance(d, "go 7; go 20 if not 1=2 and 1=1", 20);
        chance(d, "go 7; go 20 if not 1=1 or 1=1", 20);
        chance(d, "go 7; go 20 if not 1=2 or 1/0=1", 20);
        chance(d, "go 7; go 20 if not not 1=1 and not not 2=2", 20);
        chance(d, "go 7; go 20 if not(not 1=1)and not(1=2 or not 2=2)", 20);
        chance(d, "go 7; go 20 if 2<2 or 2>2", 7);
        chance(d, "go 7; go 20 if 1<2 and 2>1 and 2=2", 20);
    }

    private static void chances(Due d) {
        d.terms("CHANCE: what the last \"go\" that HOLDS tells (0 without), less what all \"hold\" tell that HOLD (each 0 at least),"
            + " 0 .. 100 hundredths (else the nearest).");
        chance(d, "go 10;go 30;go 20", 20);
        chance(d, "go 10;go 30;go 20 if 1=2", 30);
        chance(d, "hold 5", 0);
        chance(d, "go 5 if 1=2", 0);
        chance(d, "go 100", 100);
        chance(d, "go 101", 100);
        chance(d, "go 1000*1000*1000", 100);
        chance(d, "go 0-1", 0);
        chance(d, "go 20;hold 20", 0);
        chance(d, "go 20;hold 21", 0);
        chance(d, "go 20;hold 19", 1);
        chance(d, "go 200;hold 50", 100);
        chance(d, "go 200;hold 150", 50);
        chance(d, "go 20;hold 0-5", 20);
        chance(d, "go 20;hold 0-5;hold 3", 17);
        chance(d, "hold 3;go 20;hold 4;hold 5 if 1=2", 13);
        chance(d, "go 1000*1000*1000" + ";hold 1000*1000*1000".repeat(11), 0);
        chance(d, "go 1000*1000*1000;hold 1000*1000*1000-60", 60);
    }

    private static void reasons(Due d) {
        d.terms("REASONS are the \"hold\" CLAUSES, by turns from 0 on.");
        SmokeRoom x = Tape.room(1, 1, "hold 1;go 90;hold 2;go 80;hold 4");
        d.is("the first", x.held(0, 0), 10000);
        d.is("the second", x.held(0, 1), 20000);
        d.is("the third", x.held(0, 2), 40000);
        d.is("no fourth", x.held(0, 3), -10000000);
        d.is("three", x.reasons(0), 3);
    }

    private static void paid(Due d) {
        d.terms("Who is PAID to STAY has CHANCE 0; who is PAID to GO 100 from that GLANCE on, 0 ahead.");
        SmokeRoom x = Tape.room(2, 6, "go 50");
        x.paid(0, 1, 0);
        x.paid(1, 2, 4);
        for (int g = 0; g < 12; g++) {
            d.is("stays", x.chance(0, g, 2, 0), 0);
            d.is("goes", x.chance(1, g, 1, 0), g < 4 ? 0 : 100);
        }
    }
}
