import java.util.Random;

/** Drawn calls on SaltLines and on the model must answer alike; the draws have fixed seeds. */
public final class ModelTest {
    private static final Check check = new Check("ModelTest");

    public static void main(String[] args) {
        for (int run = 0; run < 400; run++) calls(run);
        for (int run = 0; run < 20000; run++) texts(run);
        check.end();
    }

    private static void tell(SaltLines x, Model m, String text, String run) {
        for (int i = 0; i < text.length(); i++) {
            check.due(run + " feed", x.feed(text.charAt(i)), m.feed(text.charAt(i)));
        }
        check.due(run + " house of '" + text + "'", x.house(), m.house());
        check.due(run + " fault of '" + text + "'", x.fault(), m.fault());
    }

    private static void texts(int run) {
        Random random = new Random(run);
        SaltLines x = new SaltLines();
        Model m = new Model();
        tell(x, m, Calls.spoilt(Calls.text(random), random), "text " + run);
        for (int what = 0; what <= 13; what++) check.due("text " + run + " told(" + what + ")", x.told(what), m.told(what));
    }

    private static void calls(int run) {
        Random random = new Random(1000003L * run + 17);
        SaltLines x = new SaltLines();
        Model m = new Model();
        if (run % 20 != 0) tell(x, m, Calls.text(random), "run " + run);
        for (int call = 0; call < 300; call++) {
            int kind = random.nextInt(Calls.KINDS);
            // a house anew is seldom, so that the runs get somewhere
            if (kind == 0 && random.nextInt(20) != 0) kind = 8;
            if (kind == 39 && random.nextInt(4) != 0) kind = 9;
            int a = number(random);
            int b = number(random);
            int c = random.nextInt(4) == 0 ? number(random) : random.nextInt(2);
            String name = "run " + run + " call " + call + ": " + Calls.name(kind, a, b, c);
            check.due(name, Calls.ask(x, kind, a, b, c), Calls.ask(m, kind, a, b, c));
            if (random.nextInt(60) == 0) tell(x, m, Calls.spoilt(Calls.text(random), random), name);
            if (call % 10 == 0) compareAll(x, m, name);
        }
    }

    private static int number(Random random) {
        return switch (random.nextInt(12)) {
            case 0 -> random.nextInt(1010) - 5;
            case 1 -> random.nextInt(105) - 2;
            case 2 -> random.nextInt(35) - 2;
            case 3 -> random.nextInt(20) - 10;
            case 4 -> random.nextInt();
            case 5, 6, 7 -> random.nextInt(11) - 1;
            default -> random.nextInt(5);
        };
    }

    private static void compareAll(SaltLines x, Model m, String run) {
        for (int what = 0; what <= 13; what++) check.due(run + " then told(" + what + ")", x.told(what), m.told(what));
        for (int d = 0; d < 10; d++) {
            for (int what = 0; what <= 5; what++) check.due(run + " then door", x.door(d, what), m.door(d, what));
            check.due(run + " then lasts", x.lasts(d), m.lasts(d));
        }
        for (int p = 0; p < 6; p++) {
            for (int what = 0; what <= 3; what++) check.due(run + " then person", x.person(p, what), m.person(p, what));
            for (int a = 0; a < 8; a++) {
                check.due(run + " then way 0", x.way(p, a, 0), m.way(p, a, 0));
                check.due(run + " then way 1", x.way(p, a, 1), m.way(p, a, 1));
                check.due(run + " then soften", x.soften(p, a), m.soften(p, a));
            }
        }
        int p = m.told(3) - 1;
        for (int a = 0; a < 8; a += 3) {
            check.due(run + " then keepOut 0", x.keepOut(p, a, 0), m.keepOut(p, a, 0));
            check.due(run + " then keepOut 1", x.keepOut(p, a, 1), m.keepOut(p, a, 1));
        }
        for (int ill = 0; ill <= 9; ill++) check.due(run + " then parts", x.parts(ill, -1), m.parts(ill, -1));
        for (int n = 0; n < 95; n += 7) check.due(run + " then share", x.share(n, 0), m.share(n, 0));
        check.due(run + " then mend", x.mend(99), m.mend(99));
        check.due(run + " then holds", x.holds(0), m.holds(0));
        check.due(run + " then narrow", x.narrow(), m.narrow());
        check.due(run + " then first", x.first(), m.first());
    }
}
