import java.lang.management.ManagementFactory;

/** Calls make nothing new: all rows are made with the object, and the object itself is small. */
public final class SpaceTest {
    private static final com.sun.management.ThreadMXBean THREADS =
        (com.sun.management.ThreadMXBean) ManagementFactory.getThreadMXBean();
    private static int answers = 0;

    private static long made() {
        return THREADS.getThreadAllocatedBytes(Thread.currentThread().getId());
    }

    private static SmokeRoom full() {
        SmokeRoom x = Tape.room(5, 12, "go 3 + stirs * 5 + gone; hold still if size > 20; hold 1");
        for (int n = 1; n < 4; n++) Tape.law(x, "go 7 - " + n);
        for (int plan = 0; plan < 6; plan++) {
            x.use(plan);
            x.people(5);
        }
        for (int t = 0; t < 8; t++) x.trial(t % 6, t % 2);
        return x;
    }

    private static void everyCall(SmokeRoom x) {
        answers += x.use(0) + x.people(5) + x.person(0, 0, 0) + x.paid(0, 0, 0) + x.sees(0, 0, 31) + x.ask(0, 1);
        answers += x.friends(0, 1, 1) + x.lasts(12) + x.size(0, 5) + x.feed(1, 2, 3, 4, 5) + x.end(20) + x.row();
        answers += x.feed(1735335985, 808460320, 538976288, 538976288, 538976288) + x.law() + x.fault() + x.force(0);
        answers += x.reasons(0) + x.chance(0, 0, 6, 8) + x.odds(NONE, 12) + x.odds(0, 12) + x.digits(1, 12, 3);
        answers += x.alone(NONE, 12) + x.alone(0, 12) + x.held(0, 0) + x.parts(0, 1, 0) + x.gentle(0, 1, 891, 0);
        answers += x.fright(0) + x.moved(0, 5) + x.span(5, 1) + x.crowd(0, 12) + x.sooner(0, 1000000);
        answers += x.words(1000000) + x.few() + x.run(7) + x.went(0) + x.worlds(100, 7) + x.trial(0, 0) + x.weigh(0, 9);
        answers += x.likely(0) + x.printed(0, 0, 4, 1) + x.next(0, 1, 0) + x.street(1, 1, 1) + x.streets(0, 0, 0);
        answers += x.differs() + x.window(1, 1, 1) + x.tale(1, 1, 1, 1) + x.image(0) + x.back(0) + x.count(0) + x.status();
    }

    private static final int NONE = SmokeRoom.NONE;

    public static void main(String[] args) {
        SmokeRoom x = full();
        everyCall(x);
        made();
        long before = made();
        for (int i = 0; i < 10; i++) everyCall(x);
        long calls = made() - before;
        before = made();
        SmokeRoom y = new SmokeRoom();
        long object = made() - before;
        answers += y.status();
        System.out.println("500 calls made " + calls + " bytes, an object is " + object + " bytes");
        // Reading the clock of bytes may itself cost some; a row made in a call would be far more.
        if (calls > 2000 || object > 200000) System.exit(1);
    }
}
