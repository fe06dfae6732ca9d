import java.util.List;
import java.util.Random;

/** Runs of calls by chance: SmokeRoom answers as the Model does, whatever it is asked. */
public final class ModelTest {
    /** A step makes 30 calls at most, and nothing is promised behind the 512th. */
    private static final int CALLS = 512 - 30;

    /** Those that are asked of a PERSON or of all, within GLANCES. */
    private static final List<String> PERSONAL = List.of("odds", "digits", "alone", "crowd", "sooner");

    private final Random random;
    private final Texts texts;
    private final Pair pair = new Pair();
    private final Model model = pair.model;

    private ModelTest(long seed) {
        random = new Random(seed);
        texts = new Texts(random);
    }

    private void call(String name, int... args) throws Exception {
        pair.call(name, args);
    }

    private int argument(int least, int most) {
        if (random.nextInt(40) == 0) {
            int[] odd = {least - 1, most + 1, Integer.MIN_VALUE, Integer.MAX_VALUE, -7, 1 << 20};
            return odd[random.nextInt(odd.length)];
        }
        if (random.nextInt(8) == 0) return random.nextBoolean() ? least : most;
        return least + random.nextInt(most - least + 1);
    }

    private void makeLaw() throws Exception {
        int kind = random.nextInt(8);
        pair.tape(kind == 0 ? texts.wrong() : kind <= 2 ? texts.good() : texts.lively());
        call("law");
        call("fault");
    }

    private void makeRow() throws Exception {
        call("end", 0);
        int feeds = 1 + random.nextInt(3);
        for (int i = 0; i < feeds; i++) {
            int[] five = new int[5];
            for (int j = 0; j < 5; j++) five[j] = random.nextInt(6) == 0 ? random.nextInt() : random.nextInt(103) - 2;
            call("feed", five);
        }
        call("end", random.nextInt(20 * feeds + 1));
        call("row");
        for (int g = 0; g < 12; g++) call("size", g, random.nextInt(100));
    }

    private void step() throws Exception {
        int kind = random.nextInt(60);
        if (kind == 0) {
            makeLaw();
            return;
        }
        if (kind == 1 && random.nextInt(4) == 0) {
            makeRow();
            return;
        }
        if (kind == 2) {
            call("feed", random.nextInt(), random.nextInt(), random.nextInt(), random.nextInt(), random.nextInt());
            return;
        }
        String[] parts = Pair.FACE[random.nextInt(Pair.FACE.length)].split(" ");
        int[] args = new int[(parts.length - 1) / 2];
        for (int i = 0; i < args.length; i++) {
            args[i] = argument(Integer.parseInt(parts[1 + 2 * i]), Integer.parseInt(parts[2 + 2 * i]));
        }
        if (parts[0].equals("people") && random.nextInt(4) > 0) args[0] = 1 + random.nextInt(4);
        boolean dulls = parts[0].equals("back") || parts[0].equals("paid");
        if (dulls && random.nextInt(5) > 0) return;
        if (parts[0].equals("force") && random.nextInt(8) > 0) args[0] = random.nextInt(Math.max(1, model.count(1)));
        if (PERSONAL.contains(parts[0]) && random.nextInt(8) > 0) {
            args[0] = random.nextInt(model.count(0) + 1) - 1;
            if (parts[0].equals("digits")) args[2] = random.nextInt(1 + Math.min(14, model.count(0) * nightNow() * 2 / 9));
            if (!parts[0].equals("sooner")) args[1] = random.nextInt(nightNow() + 1);
        }
        if (parts[0].equals("chance") && random.nextInt(8) > 0) args[0] = random.nextInt(Math.max(1, model.count(0)));
        if ((parts[0].equals("sooner") || parts[0].equals("words")) && random.nextInt(3) > 0) {
            int any = model.odds(-1, nightNow());
            args[args.length - 1] = Math.max(0, Math.min(1000000, any + random.nextInt(200001) - 100000));
        }
        if (parts[0].equals("lasts") && random.nextInt(3) > 0) args[0] = 1 + random.nextInt(5);
        call(parts[0], args);
    }

    private int nightNow() {
        int glances = 0;
        while (model.odds(-1, glances + 1) != SmokeRoom.NONE) glances++;
        return glances;
    }

    private void fill() throws Exception {
        for (int plan = 0; plan < 6; plan++) {
            call("use", plan);
            call("people", random.nextInt(5) == 0 ? 0 : 1 + random.nextInt(random.nextInt(3) == 0 ? 5 : 3));
            for (int p = 0; p < 5; p++) {
                if (random.nextInt(3) == 0) call("sees", p, 0, random.nextInt(32));
                if (random.nextInt(3) == 0) call("sees", p, 1, random.nextInt(32));
                if (random.nextInt(3) == 0) call("ask", p, random.nextInt(4));
                if (random.nextInt(12) == 0) call("paid", p, 2, random.nextInt(12));
                if (random.nextInt(12) == 0) call("paid", p, 1, 0);
            }
        }
        for (int p = 0; p < 5; p++) {
            for (int what = 0; what < 3; what++) call("person", p, what, random.nextInt(8));
            for (int other = 0; other < p; other++) call("friends", p, other, random.nextInt(2));
        }
        call("use", random.nextInt(6));
    }

    private void run() throws Exception {
        call("people", random.nextInt(6));
        if (random.nextInt(4) > 0) fill();
        // Long nights of five are dear for the Model, so they are rarer here than short ones.
        call("lasts", random.nextInt(6) == 0 ? 12 : 1 + random.nextInt(4));
        for (int i = 0; i < 3; i++) makeLaw();
        call("force", 0);
        while (pair.told.size() < CALLS) step();
    }

    /** Five who each do as the others did, everyone's exact chance in every nine digits. */
    private void runCrowded() throws Exception {
        call("people", 5);
        int glances = 2 + random.nextInt(3);
        call("lasts", glances);
        for (int p = 0; p < 5; p++) {
            call("person", p, 0, random.nextInt(8));
            call("sees", p, 0, random.nextInt(32));
            call("sees", p, 1, random.nextInt(32));
            for (int other = 0; other < p; other++) call("friends", p, other, random.nextInt(2));
        }
        pair.tape("go 5 + kind * 3 + stirs * 7 + gone * 11 + heard * 4 + friends * 6; hold still * 2");
        call("law");
        call("force", 0);
        for (int p = -1; p < 5; p++) {
            for (int k = 0; k <= 10 * glances / 9; k++) call("digits", p, glances, k);
            call("crowd", p, glances);
        }
    }

    public static void main(String[] args) throws Exception {
        int runs = args.length > 0 ? Integer.parseInt(args[0]) : 150;
        long first = args.length > 1 ? Long.parseLong(args[1]) : 1;
        for (long seed = first; seed < first + runs; seed++) {
            ModelTest test = new ModelTest(seed);
            try {
                if (seed % 15 == 0) test.runCrowded();
                else test.run();
            } catch (Throwable wrong) {
                test.pair.tell("run " + seed, wrong);
                System.exit(1);
            }
        }
        System.out.println(runs + " runs are as the Model has them");
    }
}
