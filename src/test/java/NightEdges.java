/** Edges of promises 40 to 44: STREETS, WINDOWS and TALES of a night. */
final class NightEdges {
    private static final int NONE = SmokeRoom.NONE;
    private static final int[] FAR = {Integer.MIN_VALUE, -2, 2000, Integer.MAX_VALUE};

    private NightEdges() {
    }

    static void look(Due d) {
        street(d);
        fullOfStreets(d);
        streets(d);
        mostDiffers(d);
        differs(d);
        window(d);
        fullOfWindows(d);
        tales(d);
        tale(d);
    }

    private static void street(Due d) {
        SmokeRoom x = new SmokeRoom();
        d.terms("STREETS, 40 at most: three things that are so or not (bits 0 .. 7), MANY 1 .. 99 people, HELPED 1 or 0.");
        d.taken("the least of all", x, x.street(0, 1, 0), 0);
        d.taken("the most of all", x, x.street(7, 99, 1), 1);
        d.is("people of both", x.streets(0, 0, 2) + x.streets(0, 1, 2), 100);
        d.says(40, "A STREET: its number. -1; -5.");
        d.refused("things 8", x, x.street(8, 1, 0), -1);
        d.refused("things -1", x, x.street(-1, 1, 0), -1);
        d.refused("many 0", x, x.street(0, 0, 0), -1);
        d.refused("many 100", x, x.street(0, 100, 0), -1);
        d.refused("many -1", x, x.street(0, -1, 0), -1);
        d.refused("helped 2", x, x.street(0, 1, 2), -1);
        d.refused("helped -1", x, x.street(0, 1, -1), -1);
        for (int far : FAR) {
            d.refused("things far off", x, x.street(far, 1, 0), -1);
            d.refused("many far off", x, x.street(0, far, 0), -1);
            d.refused("helped far off", x, x.street(0, 1, far), -1);
        }
        d.is("two", x.count(3), 2);
        d.taken("the third", x, x.street(1, 2, 1), 2);
    }

    private static void fullOfStreets(Due d) {
        SmokeRoom x = new SmokeRoom();
        d.says(40, "A STREET: its number. -1; -5.");
        for (int s = 0; s < 40; s++) d.taken("street " + s, x, x.street(7, 99, 1), s);
        d.refused("no room", x, x.street(0, 1, 0), -5);
        d.refused("no room, and one that can't be", x, x.street(8, 1, 0), -1);
        d.is("forty", x.count(3), 40);
        d.is("one by -5", x.count(8), 1);
        for (int thing = 0; thing < 3; thing++) {
            d.is("all have it", x.streets(thing, 1, 0), 40);
            d.is("all helped", x.streets(thing, 1, 1), 40);
            d.is("as many people as can be", x.streets(thing, 1, 2), 3960);
            d.is("none is without", x.streets(thing, 0, 0), 0);
        }
    }

    private static void streets(Due d) {
        SmokeRoom x = new SmokeRoom();
        d.terms("By a thing: how many with it, without it, how many of each HELPED.");
        for (int thing = 0; thing < 3; thing++) {
            for (int what = 0; what < 3; what++) {
                d.is("with it, of none", x.streets(thing, 1, what), 0);
                d.is("without it, of none", x.streets(thing, 0, what), 0);
            }
        }
        x.street(1, 10, 1);
        x.street(2, 20, 0);
        x.street(4, 30, 1);
        x.street(5, 40, 0);
        d.says(41, "By a thing (0 .. 2), with it (1) or without it (0): how many STREETS (what 0), HELPED of them (1), people in all (2).");
        int[][] with = {{2, 1, 50}, {1, 0, 20}, {2, 1, 70}};
        int[][] without = {{2, 1, 50}, {3, 2, 80}, {2, 1, 30}};
        for (int thing = 0; thing < 3; thing++) {
            for (int what = 0; what < 3; what++) {
                d.is("with " + thing + ", " + what, x.streets(thing, 1, what), with[thing][what]);
                d.is("without " + thing + ", " + what, x.streets(thing, 0, what), without[thing][what]);
            }
        }
        d.says(41, "NONE.");
        d.is("thing 3", x.streets(3, 0, 0), NONE);
        d.is("thing -1", x.streets(-1, 0, 0), NONE);
        d.is("with 2", x.streets(0, 2, 0), NONE);
        d.is("with -1", x.streets(0, -1, 0), NONE);
        d.is("what 3", x.streets(0, 0, 3), NONE);
        d.is("what -1", x.streets(0, 0, -1), NONE);
        for (int far : FAR) {
            d.is("a thing far off", x.streets(far, 0, 0), NONE);
            d.is("with far off", x.streets(0, far, 0), NONE);
            d.is("what far off", x.streets(0, 0, far), NONE);
        }
    }

    private static SmokeRoom told(int[][] rows) {
        SmokeRoom x = new SmokeRoom();
        for (int[] r : rows) for (int i = 0; i < r[2]; i++) x.street(r[0], 1, r[1]);
        return x;
    }

    private static void mostDiffers(Due d) {
        d.terms("MOST DIFFERS the thing whose two parts HELPED are farthest apart (by whole fractions; one with no STREET on one side"
            + " does not count; of alike ones the first).");
        d.is("nothing without the first", told(new int[][] {{1, 1, 3}, {3, 0, 1}}).differs(), 1);
        d.is("nothing without any", told(new int[][] {{7, 1, 3}, {7, 0, 3}}).differs(), NONE);
        d.is("nothing with any", told(new int[][] {{0, 1, 3}, {0, 0, 3}}).differs(), NONE);
        d.is("the last alone counts", told(new int[][] {{7, 1, 3}, {3, 1, 3}}).differs(), 2);
        d.is("all alike", told(new int[][] {{7, 1, 1}, {0, 0, 1}}).differs(), 0);
        d.is("the last two alike", told(new int[][] {{6, 1, 1}, {0, 0, 1}}).differs(), 1);
        d.is("apart the other way", told(new int[][] {{6, 1, 1}, {1, 0, 1}}).differs(), 0);
        // With 0: 19 of 20 against 18 of 20; with 1: 37 of 39 against 0 of 1.
        d.is("one street is a part", told(new int[][] {{3, 1, 19}, {1, 0, 1}, {2, 1, 18}, {2, 0, 2}}).differs(), 1);
        // With 0: 1 of 3 against 0 of 37; with 1: 1 of 4 against 0 of 36; with 2: 0 of 1 against 1 of 39.
        d.is("a third, a quarter", told(new int[][] {{3, 1, 1}, {3, 0, 2}, {2, 0, 1}, {4, 0, 1}, {0, 0, 35}}).differs(), 0);
        // With 0: 1 of 4 against 0 of 36; with 1: 1 of 3 against 0 of 37.
        d.is("a quarter, a third", told(new int[][] {{3, 1, 1}, {3, 0, 2}, {1, 0, 1}, {4, 0, 1}, {0, 0, 35}}).differs(), 1);
        // With 0: 3 of 3, without 17 of 37; with 1: 1 of 2, without 19 of 38; with 2: 18 of 19, without 2 of 21.
        d.is("by fractions, not by streets", told(new int[][] {{5, 1, 2}, {1, 1, 1}, {2, 0, 1}, {6, 1, 1}, {4, 1, 15}, {4, 0, 1},
            {0, 1, 1}, {0, 0, 18}}).differs(), 2);
    }

    private static void differs(Due d) {
        d.says(42, "The thing that MOST DIFFERS; NONE.");
        SmokeRoom x = new SmokeRoom();
        d.is("no street", x.differs(), NONE);
        x.street(5, 1, 1);
        d.is("one street", x.differs(), NONE);
        x.street(5, 99, 0);
        d.is("two alike", x.differs(), NONE);
        x.street(4, 1, 1);
        d.is("apart by the first alone", x.differs(), 0);
        x.street(2, 1, 1);
        x.street(2, 1, 1);
        // With 0 1 of 2 against 3 of 3; with 1 2 of 2 against 2 of 3; with 2 2 of 3 against 2 of 2.
        d.is("a half", x.differs(), 0);
        SmokeRoom y = new SmokeRoom();
        y.street(2, 1, 0);
        y.street(0, 1, 0);
        d.is("not apart at all", y.differs(), 1);
        for (int s = 0; s < 38; s++) y.street(s % 2 * 4, 1, s % 2);
        d.is("forty: with 2 all, without none", y.differs(), 2);
    }

    private static void window(Due d) {
        SmokeRoom x = new SmokeRoom();
        d.terms("WINDOWS, 40 at most, of a night: CRIES 0 .. 9 heard, SAW 0, 1, RANG 0, 1.");
        d.taken("the least of all", x, x.window(0, 0, 0), 0);
        d.taken("the most of all", x, x.window(9, 1, 1), 1);
        d.says(43, "A WINDOW: its number. -1; -5.");
        d.refused("cries 10", x, x.window(10, 0, 0), -1);
        d.refused("cries -1", x, x.window(-1, 0, 0), -1);
        d.refused("saw 2", x, x.window(0, 2, 0), -1);
        d.refused("saw -1", x, x.window(0, -1, 0), -1);
        d.refused("rang 2", x, x.window(0, 0, 2), -1);
        d.refused("rang -1", x, x.window(0, 0, -1), -1);
        for (int far : FAR) {
            d.refused("cries far off", x, x.window(far, 0, 0), -1);
            d.refused("saw far off", x, x.window(0, far, 0), -1);
            d.refused("rang far off", x, x.window(0, 0, far), -1);
        }
        d.is("two", x.count(4), 2);
        d.taken("the third", x, x.window(1, 1, 0), 2);
    }

    private static void fullOfWindows(Due d) {
        SmokeRoom x = new SmokeRoom();
        d.says(43, "A WINDOW: its number. -1; -5.");
        for (int w = 0; w < 40; w++) d.taken("window " + w, x, x.window(9, 1, 1), w);
        d.refused("no room", x, x.window(0, 0, 0), -5);
        d.refused("no room, and one that can't be", x, x.window(10, 0, 0), -1);
        d.is("forty", x.count(4), 40);
        d.is("one by -5", x.count(8), 1);
        d.is("all heard, saw, rang", x.tale(40, 9, 40, 40), 0);
        d.is("39 rang at most", x.tale(40, 9, 40, 39), 4);
        d.is("just 39 saw", x.tale(40, 9, 39, 40), 2);
    }

    private static void tales(Due d) {
        SmokeRoom x = new SmokeRoom();
        d.terms("A TALE says that so many at least heard so many CRIES at least, just so many SAW, so many RANG at most: its WORDS that"
            + " are not so.");
        x.window(3, 1, 1);
        x.window(5, 1, 0);
        x.window(0, 0, 1);
        d.is("as it was", x.tale(2, 3, 2, 2), 0);
        d.is("fewer heard", x.tale(1, 3, 2, 2), 0);
        d.is("more heard", x.tale(3, 3, 2, 2), 1);
        d.is("fewer cries", x.tale(2, 2, 2, 2), 0);
        d.is("more cries", x.tale(2, 4, 2, 2), 1);
        d.is("one heard so many", x.tale(1, 5, 2, 2), 0);
        d.is("nobody heard so many", x.tale(1, 6, 2, 2), 1);
        d.is("nobody needs to", x.tale(0, 9, 2, 2), 0);
        d.is("all heard none at least", x.tale(3, 0, 2, 2), 0);
        d.is("fewer saw", x.tale(2, 3, 1, 2), 2);
        d.is("more saw", x.tale(2, 3, 3, 2), 2);
        d.is("more rang at most", x.tale(2, 3, 2, 3), 0);
        d.is("fewer rang at most", x.tale(2, 3, 2, 1), 4);
    }

    private static void tale(Due d) {
        SmokeRoom x = new SmokeRoom();
        d.says(44, "A TALE: 1 too few heard so many CRIES, 2 not so many SAW, 4 more RANG, together.");
        d.is("of no window", x.tale(0, 0, 0, 0), 0);
        d.is("one heard", x.tale(1, 0, 0, 0), 1);
        d.is("one saw", x.tale(0, 0, 1, 0), 2);
        d.is("both", x.tale(1, 0, 1, 0), 3);
        d.is("the most of all", x.tale(40, 9, 40, 40), 3);
        x.window(0, 0, 1);
        d.is("one rang", x.tale(0, 0, 0, 0), 4);
        d.is("one rang, too few heard", x.tale(1, 1, 0, 0), 5);
        d.is("one rang, none saw", x.tale(0, 0, 1, 0), 6);
        d.is("all", x.tale(1, 9, 1, 0), 7);
        d.says(44, "NONE (a number not 0 .. 40, CRIES not 0 .. 9).");
        d.is("heard 41", x.tale(41, 0, 0, 0), NONE);
        d.is("heard -1", x.tale(-1, 0, 0, 0), NONE);
        d.is("cries 10", x.tale(0, 10, 0, 0), NONE);
        d.is("cries -1", x.tale(0, -1, 0, 0), NONE);
        d.is("saw 41", x.tale(0, 0, 41, 0), NONE);
        d.is("saw -1", x.tale(0, 0, -1, 0), NONE);
        d.is("rang 41", x.tale(0, 0, 0, 41), NONE);
        d.is("rang -1", x.tale(0, 0, 0, -1), NONE);
        for (int far : FAR) {
            d.is("heard far off", x.tale(far, 0, 0, 0), NONE);
            d.is("cries far off", x.tale(0, far, 0, 0), NONE);
            d.is("saw far off", x.tale(0, 0, far, 0), NONE);
            d.is("rang far off", x.tale(0, 0, 0, far), NONE);
        }
        d.is("no refusal", x.status(), 0);
    }
}
