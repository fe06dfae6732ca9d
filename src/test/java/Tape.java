/** Puts texts and bytes on the TAPE of a SmokeRoom. */
final class Tape {
    private Tape() {
    }

    static void put(SmokeRoom room, String text) {
        room.end(0);
        for (int from = 0; from < text.length(); from += 20) {
            int[] five = new int[5];
            for (int i = 0; i < 20; i++) {
                int sign = from + i < text.length() ? text.charAt(from + i) : ' ';
                five[i / 4] = five[i / 4] << 8 | sign;
            }
            room.feed(five[0], five[1], five[2], five[3], five[4]);
        }
        room.end(text.length());
    }

    static int law(SmokeRoom room, String text) {
        put(room, text);
        return room.law();
    }

    /** A room with so many PERSONS in PLAN 0 under a LAW, for so many GLANCES. */
    static SmokeRoom room(int people, int glances, String law) {
        SmokeRoom room = new SmokeRoom();
        room.people(people);
        room.lasts(glances);
        room.force(law(room, law));
        return room;
    }
}
