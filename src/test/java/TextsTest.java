import java.util.Random;

/** TEXTS by chance, good and wrong: read, or refused at the same place, as the Model's automaton has it. */
public final class TextsTest {
    private static int wrong = 0;
    private static int good = 0;

    private static void look(String text) {
        SmokeRoom room = new SmokeRoom();
        int law = Tape.law(room, text);
        int due = Model.faultOf(text);
        good += due == SmokeRoom.NONE ? 1 : 0;
        boolean same = room.fault() == due && law == (due == SmokeRoom.NONE ? 0 : -6)
            && (law < 0 || room.reasons(0) == Model.reasonsOf(text));
        if (same) return;
        wrong++;
        System.out.println("'" + text + "': law " + law + ", fault " + room.fault() + ", due is " + due);
    }

    /** Beside single scraps, texts near the limits of CLAUSES, PARTS and brackets. */
    private static String nearLimits(Random random) {
        StringBuilder all = new StringBuilder();
        int clauses = 9 + random.nextInt(6);
        for (int c = 0; c < clauses; c++) {
            if (c > 0) all.append(';');
            all.append(random.nextBoolean() ? "go " : "hold ");
            int deep = random.nextInt(3) == 0 ? random.nextInt(10) : 0;
            all.append("[".repeat(deep)).append("1");
            for (int p = random.nextInt(7); p > 0; p--) all.append("+2");
            all.append("]".repeat(deep));
            if (random.nextInt(4) == 0) {
                int more = random.nextInt(9);
                int sums = random.nextInt(3);
                all.append(" if ").append("not(".repeat(more)).append("[".repeat(sums)).append("3");
                all.append("]".repeat(sums)).append("<size").append(")".repeat(more));
            }
        }
        return Texts.cut(all.toString());
    }

    public static void main(String[] args) {
        int many = args.length > 0 ? Integer.parseInt(args[0]) : 6000;
        Random random = new Random(2026);
        Texts texts = new Texts(random);
        for (int i = 0; i < many; i++) {
            int kind = random.nextInt(4);
            look(kind == 0 ? texts.good() : kind == 1 ? nearLimits(random) : texts.wrong());
        }
        System.out.println(many + " texts, " + good + " of them good, " + wrong + " read otherwise than due");
        if (wrong != 0 || good == 0) System.exit(1);
    }
}
