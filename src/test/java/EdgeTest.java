import java.util.ArrayList;
import java.util.List;
import java.util.Random;

/** Every call with numbers at and beyond all bounds, in many states: none throws, what is refused changes nothing. */
public final class EdgeTest {
    private static final Check check = new Check("EdgeTest");
    private static final int[] EDGES = {Integer.MIN_VALUE, -1000000001, -1000, -11, -10, -9, -2, -1, 0, 1, 2, 5, 6, 7, 8, 9, 10,
        11, 12, 13, 14, 30, 31, 32, 33, 60, 61, 99, 100, 101, 240, 255, 256, 999, 1000, 90000, 2147483646, Integer.MAX_VALUE};

    public static void main(String[] args) {
        for (int run = 0; run < 40; run++) everyCall(run);
        check.end();
    }

    private static SaltLines drawn(int run) {
        Random random = new Random(run);
        SaltLines x = new SaltLines();
        if (run % 8 == 0) return x;
        Check.feedAll(x, Calls.text(random));
        x.house();
        if (run % 8 == 1) return x;
        for (int i = 0; i < 6; i++) x.see(random.nextInt(10), random.nextBoolean());
        for (int i = 0; i < 20; i++) x.write(random.nextInt(10), random.nextInt(10));
        x.keep(0);
        x.drift(30);
        x.hour(1 + random.nextInt(30));
        for (int i = 0; i < 240; i++) x.feed(' ');
        return x;
    }

    private static void everyCall(int run) {
        SaltLines x = drawn(run);
        Random random = new Random(run + 99);
        for (int kind = 1; kind < Calls.KINDS; kind++) {
            for (int a : EDGES) {
                for (int i = 0; i < 12; i++) {
                    int b = EDGES[random.nextInt(EDGES.length)];
                    int c = EDGES[random.nextInt(EDGES.length)];
                    one(x, kind, a, b, c);
                }
            }
        }
    }

    private static void one(SaltLines x, int kind, int a, int b, int c) {
        List<Integer> ahead = allAnswers(x);
        String name = Calls.name(kind, a, b, c);
        try {
            int answer = Calls.ask(x, kind, a, b, c);
            if (answer < -1000000000) check.isTrue(name + " is refused and changes nothing", ahead.equals(allAnswers(x)));
        } catch (RuntimeException e) {
            check.isTrue(name + " does not throw: " + e.getCause(), false);
        }
    }

    private static List<Integer> allAnswers(SaltLines x) {
        List<Integer> all = new ArrayList<>();
        for (int what = 0; what <= 13; what++) all.add(x.told(what));
        for (int d = 0; d < 10; d++) {
            for (int what = 0; what <= 5; what++) all.add(x.door(d, what));
        }
        for (int p = 0; p < 6; p++) {
            for (int what = 0; what <= 2; what++) all.add(x.person(p, what));
        }
        all.add(x.fault());
        all.add(x.ills());
        all.add(x.judge());
        int seed = x.seed(0);
        x.seed(seed);
        all.add(seed);
        return all;
    }
}
