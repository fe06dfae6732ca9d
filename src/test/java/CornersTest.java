import java.util.ArrayList;
import java.util.List;

/**
 * Every call with each of its arguments far too small, just too small, the least, the greatest, just too
 * large and far too large, all of these together: SmokeRoom answers as the Model does.
 */
public final class CornersTest {
    private static int calls = 0;

    /** The arguments of one call, beside the least and the greatest also those that this room's state makes edges. */
    private static int[] corners(String name, int argument, int least, int most) {
        boolean glances = argument == 1 && List.of("odds", "digits", "alone", "crowd").contains(name);
        boolean law = List.of("reasons", "likely", "weigh", "printed", "next", "force").contains(name) && least + 3 <= most;
        if (glances) return new int[] {Integer.MIN_VALUE, -1, 0, 3, 4, Integer.MAX_VALUE};
        if (law && argument < 2) return new int[] {Integer.MIN_VALUE, -2, -1, 0, 1, 2, Integer.MAX_VALUE};
        return new int[] {Integer.MIN_VALUE, least - 1, least, least + 1, most, most + 1, Integer.MAX_VALUE};
    }

    private static List<int[]> all(String[] parts) {
        List<int[]> rows = new ArrayList<>();
        rows.add(new int[0]);
        for (int i = 0; i < (parts.length - 1) / 2; i++) {
            int[] values = corners(parts[0], i, Integer.parseInt(parts[1 + 2 * i]), Integer.parseInt(parts[2 + 2 * i]));
            List<int[]> longer = new ArrayList<>();
            for (int[] row : rows) {
                for (int value : values) {
                    int[] more = java.util.Arrays.copyOf(row, i + 1);
                    more[i] = value;
                    longer.add(more);
                }
            }
            rows = longer;
        }
        return rows;
    }

    /** Two PERSONS through three GLANCES under the first of two LAWS, with two REASONS, beside one in another PLAN. */
    private static Pair furnished() throws ReflectiveOperationException {
        Pair pair = new Pair();
        pair.call("people", 2);
        pair.call("lasts", 3);
        pair.tape("go 30 + 20 * stirs + gone * 7 + asked * 9; hold still * 4; hold kind + heard");
        pair.call("law");
        pair.tape("go size - afraid; hold 3");
        pair.call("law");
        pair.call("force", 0);
        pair.call("person", 0, 0, 5);
        pair.call("person", 1, 1, 9);
        pair.call("ask", 1, 1);
        pair.call("sees", 1, 0, 2);
        pair.call("trial", 0, 1);
        pair.call("street", 5, 12, 1);
        pair.call("street", 2, 12, 0);
        pair.call("window", 4, 1, 0);
        pair.call("image", 1);
        pair.call("use", 5);
        pair.call("people", 1);
        pair.call("run", 17);
        pair.call("use", 0);
        return pair;
    }

    private static void around(Pair pair) throws ReflectiveOperationException {
        for (int what = 0; what <= 11; what++) pair.call("count", what);
        pair.call("status");
    }

    private static void look(String face, boolean bare) throws ReflectiveOperationException {
        String[] parts = face.split(" ");
        Pair pair = bare ? new Pair() : furnished();
        try {
            for (int[] row : all(parts)) {
                pair.call(parts[0], row);
                pair.call("status");
                calls++;
                if (pair.told.size() > 400) {
                    around(pair);
                    pair = bare ? new Pair() : furnished();
                }
            }
            around(pair);
        } catch (ReflectiveOperationException | AssertionError wrong) {
            pair.tell(face, wrong);
            System.exit(1);
        }
    }

    public static void main(String[] args) throws ReflectiveOperationException {
        for (String face : Pair.FACE) {
            look(face, true);
            look(face, false);
        }
        System.out.println(calls + " calls at the corners are as the Model has them");
    }
}
