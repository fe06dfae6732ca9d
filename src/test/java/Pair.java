import java.lang.reflect.Method;
import java.lang.reflect.Modifier;
import java.util.ArrayList;
import java.util.Arrays;
import java.util.HashMap;
import java.util.List;
import java.util.Map;

/** A SmokeRoom and a Model beside it that get the same calls and must answer alike. */
final class Pair {
    /** Every call but feed; of each argument the least and the greatest that can be. */
    static final String[] FACE = {
        "use 0 5", "people 0 5", "person 0 4 0 2 0 9", "paid 0 4 0 2 0 11", "sees 0 4 0 1 0 31", "ask 0 4 -1 11",
        "friends 0 4 0 4 0 1", "lasts 1 12", "size 0 11 0 99", "end 0 400", "row", "law", "fault", "force -1 3",
        "reasons 0 3", "chance 0 4 0 11 0 31 0 31", "odds -1 4 0 12", "digits -1 4 0 12 0 14", "alone -1 4 0 12",
        "held 0 5 0 5", "parts 0 3 0 3 0 1", "gentle 0 3 0 3 0 891 0 1", "fright 0 5", "moved 0 5 0 10", "span 0 10 0 1",
        "crowd -1 4 0 12", "sooner -1 4 0 1000000", "words 0 1000000", "few", "run 0 1000000", "went 0 4",
        "worlds 1 100 0 1000000", "trial 0 5 0 1", "weigh 0 3 0 100", "likely 0 3", "printed 0 3 0 5 0 4 0 1",
        "next 0 3 0 3 0 1", "street 0 7 1 99 0 1", "streets 0 2 0 1 0 2", "differs", "window 0 9 0 1 0 1",
        "tale 0 40 0 9 0 40 0 40", "image 0 1", "back 0 1", "count 0 11", "status"};

    private static final Map<String, Method> OF_ROOM = methods(SmokeRoom.class);
    private static final Map<String, Method> OF_MODEL = methods(Model.class);

    final Model model = new Model();
    final List<String> told = new ArrayList<>();
    private final SmokeRoom room = new SmokeRoom();

    private static Map<String, Method> methods(Class<?> of) {
        Map<String, Method> all = new HashMap<>();
        for (Method m : of.getDeclaredMethods()) {
            if (!Modifier.isPrivate(m.getModifiers()) && !Modifier.isStatic(m.getModifiers())) all.put(m.getName(), m);
        }
        return all;
    }

    void call(String name, int... args) throws ReflectiveOperationException {
        Object[] boxed = new Object[args.length];
        for (int i = 0; i < args.length; i++) boxed[i] = args[i];
        int due = (Integer) OF_MODEL.get(name).invoke(model, boxed);
        int got = (Integer) OF_ROOM.get(name).invoke(room, boxed);
        told.add(name + Arrays.toString(args) + " = " + got);
        if (due != got) throw new AssertionError("due is " + due);
    }

    void tape(String text) throws ReflectiveOperationException {
        call("end", 0);
        for (int from = 0; from < text.length(); from += 20) {
            int[] five = new int[5];
            for (int i = 0; i < 20; i++) {
                int sign = from + i < text.length() ? text.charAt(from + i) : ' ';
                five[i / 4] = five[i / 4] << 8 | sign;
            }
            call("feed", five);
        }
        call("end", text.length());
    }

    void tell(String run, Throwable wrong) {
        for (String line : told) System.out.println(line);
        System.out.println(run + ": " + wrong);
        wrong.printStackTrace(System.out);
    }
}
