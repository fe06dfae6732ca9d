import java.lang.reflect.Method;
import java.util.ArrayList;
import java.util.HashMap;
import java.util.List;
import java.util.Map;
import java.util.Random;

/** Runs of calls by chance: SmokeRoom answers as the Model does, whatever it is asked. */
public final class ModelTest {
    private static final int CALLS = 512;

    /** Of each argument the least and the greatest that can be. */
    private static final String[] FACE = {
        "use 0 5", "people 0 5", "person 0 4 0 2 0 9", "paid 0 4 0 2 0 11", "sees 0 4 0 1 0 31", "ask 0 4 -1 11",
        "friends 0 4 0 4 0 1", "lasts 1 12", "size 0 11 0 99", "end 0 400", "row", "law", "fault", "force -1 3",
        "reasons 0 3", "chance 0 4 0 11 0 31 0 31", "odds -1 4 0 12", "digits -1 4 0 12 0 14", "alone -1 4 0 12",
        "held 0 5 0 5", "parts 0 3 0 3 0 1", "gentle 0 3 0 3 0 891 0 1", "fright 0 5", "moved 0 5 0 10", "span 0 10 0 1",
        "crowd -1 4 0 12", "sooner -1 4 0 1000000", "words 0 1000000", "few", "run 0 1000000", "went 0 4",
        "worlds 1 100 0 1000000", "trial 0 5 0 1", "weigh 0 3 0 100", "likely 0 3", "printed 0 3 0 5 0 4 0 1",
        "next 0 3 0 3 0 1", "street 0 7 1 99 0 1", "streets 0 2 0 1 0 2", "differs", "window 0 9 0 1 0 1",
        "tale 0 40 0 9 0 40 0 40", "image 0 1", "back 0 1", "count 0 11", "status"};

    /** Those that are asked of a PERSON or of all, within GLANCES. */
    private static final List<String> PERSONAL = List.of("odds", "digits", "alone", "crowd", "sooner");

    private static final Map<String, Method> OF_ROOM = new HashMap<>();
    private static final Map<String, Method> OF_MODEL = new HashMap<>();

    private final Random random;
    private final Texts texts;
    private SmokeRoom room = new SmokeRoom();
    private Model model = new Model();
    private final List<String> told = new ArrayList<>();
    private int calls = 0;

    private ModelTest(long seed) {
        random = new Random(seed);
        texts = new Texts(random);
    }

    private void call(String name, int... args) throws Exception {
        Object[] boxed = new Object[args.length];
        for (int i = 0; i < args.length; i++) boxed[i] = args[i];
        int due = (Integer) OF_MODEL.get(name).invoke(model, boxed);
        int got = (Integer) OF_ROOM.get(name).invoke(room, boxed);
        calls++;
        told.add(name + java.util.Arrays.toString(args) + " = " + got);
        if (due != got) throw new AssertionError("due is " + due);
    }

    private int argument(int least, int most) {
        if (random.nextInt(40) == 0) {
            int[] odd = {least - 1, most + 1, Integer.MIN_VALUE, Integer.MAX_VALUE, -7, 1 << 20};
            return odd[random.nextInt(odd.length)];
        }
        if (random.nextInt(8) == 0) return random.nextBoolean() ? least : most;
        return least + random.nextInt(most - least + 1);
    }

    private void tape(String text) throws Exception {
        call("end", 0);
        for (int from = 0; from < text.length(); from += 20) {
            int[] five = new int[5];
            for (int i = 0; i < 20; i++) {
                int sign = from + i < text.length() ? text.charAt(from + i) : ' ';
                five[i / 4] = five[i / 4] << 8 | sign;
            }
            call("feed", five);
        }
        call("end", text.length());
    }

    private void makeLaw() throws Exception {
        int kind = random.nextInt(8);
        tape(kind == 0 ? texts.wrong() : kind <= 2 ? texts.good() : texts.lively());
        call("law");
        call("fault");
    }

    private void makeRow() throws Exception {
        call("end", 0);
        int feeds = 1 + random.nextInt(3);
        for (int i = 0; i < feeds; i++) {
            int[] five = new int[5];
            for (int j = 0; j < 5; j++) five[j] = random.nextInt(6) == 0 ? random.nextInt() : random.nextInt(103) - 2;
            call("feed", five);
        }
        call("end", random.nextInt(20 * feeds + 1));
        call("row");
        for (int g = 0; g < 12; g++) call("size", g, random.nextInt(100));
    }

    private void step() throws Exception {
        int kind = random.nextInt(60);
        if (kind == 0) {
            makeLaw();
            return;
        }
        if (kind == 1 && random.nextInt(4) == 0) {
            makeRow();
            return;
        }
        if (kind == 2) {
            call("feed", random.nextInt(), random.nextInt(), random.nextInt(), random.nextInt(), random.nextInt());
            return;
        }
        String[] parts = FACE[random.nextInt(FACE.length)].split(" ");
        int[] args = new int[(parts.length - 1) / 2];
        for (int i = 0; i < args.length; i++) {
            args[i] = argument(Integer.parseInt(parts[1 + 2 * i]), Integer.parseInt(parts[2 + 2 * i]));
        }
        if (parts[0].equals("people") && random.nextInt(4) > 0) args[0] = 1 + random.nextInt(4);
        boolean dulls = parts[0].equals("back") || parts[0].equals("paid");
        if (dulls && random.nextInt(5) > 0) return;
        if (parts[0].equals("force") && random.nextInt(8) > 0) args[0] = random.nextInt(Math.max(1, model.count(1)));
        if (PERSONAL.contains(parts[0]) && random.nextInt(8) > 0) {
            args[0] = random.nextInt(model.count(0) + 1) - 1;
            if (parts[0].equals("digits")) args[2] = random.nextInt(1 + Math.min(14, model.count(0) * nightNow() * 2 / 9));
            if (!parts[0].equals("sooner")) args[1] = random.nextInt(nightNow() + 1);
        }
        if (parts[0].equals("chance") && random.nextInt(8) > 0) args[0] = random.nextInt(Math.max(1, model.count(0)));
        if ((parts[0].equals("sooner") || parts[0].equals("words")) && random.nextInt(3) > 0) {
            int any = model.odds(-1, nightNow());
            args[args.length - 1] = Math.max(0, Math.min(1000000, any + random.nextInt(200001) - 100000));
        }
        if (parts[0].equals("lasts") && random.nextInt(3) > 0) args[0] = 1 + random.nextInt(5);
        call(parts[0], args);
    }

    private int nightNow() {
        int glances = 0;
        while (model.odds(-1, glances + 1) != SmokeRoom.NONE) glances++;
        return glances;
    }

    private void fill() throws Exception {
        for (int plan = 0; plan < 6; plan++) {
            call("use", plan);
            call("people", random.nextInt(5) == 0 ? 0 : 1 + random.nextInt(random.nextInt(3) == 0 ? 5 : 3));
            for (int p = 0; p < 5; p++) {
                if (random.nextInt(3) == 0) call("sees", p, 0, random.nextInt(32));
                if (random.nextInt(3) == 0) call("sees", p, 1, random.nextInt(32));
                if (random.nextInt(3) == 0) call("ask", p, random.nextInt(4));
                if (random.nextInt(12) == 0) call("paid", p, 2, random.nextInt(12));
                if (random.nextInt(12) == 0) call("paid", p, 1, 0);
            }
        }
        for (int p = 0; p < 5; p++) {
            for (int what = 0; what < 3; what++) call("person", p, what, random.nextInt(8));
            for (int other = 0; other < p; other++) call("friends", p, other, random.nextInt(2));
        }
        call("use", random.nextInt(6));
    }

    private void run() throws Exception {
        call("people", random.nextInt(6));
        if (random.nextInt(4) > 0) fill();
        // Long nights of five are dear for the Model, so they are rarer here than short ones.
        call("lasts", random.nextInt(6) == 0 ? 12 : 1 + random.nextInt(4));
        for (int i = 0; i < 3; i++) makeLaw();
        call("force", 0);
        while (calls < CALLS) step();
    }

    /** Five who each do as the others did, everyone's exact chance in every nine digits. */
    private void runCrowded() throws Exception {
        call("people", 5);
        int glances = 2 + random.nextInt(3);
        call("lasts", glances);
        for (int p = 0; p < 5; p++) {
            call("person", p, 0, random.nextInt(8));
            call("sees", p, 0, random.nextInt(32));
            call("sees", p, 1, random.nextInt(32));
            for (int other = 0; other < p; other++) call("friends", p, other, random.nextInt(2));
        }
        tape("go 5 + kind * 3 + stirs * 7 + gone * 11 + heard * 4 + friends * 6; hold still * 2");
        call("law");
        call("force", 0);
        for (int p = -1; p < 5; p++) {
            for (int k = 0; k <= 10 * glances / 9; k++) call("digits", p, glances, k);
            call("crowd", p, glances);
        }
    }

    public static void main(String[] args) throws Exception {
        for (Method m : SmokeRoom.class.getDeclaredMethods()) {
            if (java.lang.reflect.Modifier.isPublic(m.getModifiers())) OF_ROOM.put(m.getName(), m);
        }
        for (Method m : Model.class.getDeclaredMethods()) {
            if (OF_ROOM.containsKey(m.getName())) OF_MODEL.put(m.getName(), m);
        }
        int runs = args.length > 0 ? Integer.parseInt(args[0]) : 150;
        long first = args.length > 1 ? Long.parseLong(args[1]) : 1;
        for (long seed = first; seed < first + runs; seed++) {
            ModelTest test = new ModelTest(seed);
            try {
                if (seed % 15 == 0) test.runCrowded();
                else test.run();
            } catch (Throwable wrong) {
                for (String line : test.told) System.out.println(line);
                System.out.println("run " + seed + ": " + wrong);
                wrong.printStackTrace(System.out);
                System.exit(1);
            }
        }
        System.out.println(runs + " runs are as the Model has them");
    }
}
