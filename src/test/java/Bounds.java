import java.util.ArrayList;
import java.util.List;
import java.util.function.Supplier;
import java.util.function.ToIntFunction;

/** Asks at a bound and beyond it. What is refused is asked of one of two objects made alike: all must be as it is in the other. */
final class Bounds {
    /** A call with one number left open. */
    interface Ask {
        int of(SaltLines x, int n);
    }

    private final Check check;

    Bounds(Check check) {
        this.check = check;
    }

    void refused(String sentence, Supplier<SaltLines> made, ToIntFunction<SaltLines> call, int refusal) {
        SaltLines asked = made.get();
        check.due(sentence, call.applyAsInt(asked), refusal);
        check.isTrue(sentence + ": all is as it was behind it", trace(asked).equals(trace(made.get())));
    }

    /** For calls that answer without changing anything. */
    void tried(String sentence, Supplier<SaltLines> made, ToIntFunction<SaltLines> call, int answer) {
        refused(sentence, made, call, answer);
    }

    Asked of(String sentence, Supplier<SaltLines> made, Ask ask) {
        return new Asked(sentence, made, ask);
    }

    /** The two sides of a bound; each number is asked of an object of its own. */
    final class Asked {
        private final String sentence;
        private final Supplier<SaltLines> made;
        private final Ask ask;

        private Asked(String sentence, Supplier<SaltLines> made, Ask ask) {
            this.sentence = sentence;
            this.made = made;
            this.ask = ask;
        }

        Asked low(int last, int answer, int refusal) {
            at(last, answer);
            beyond(last - 1, refusal);
            beyond(Integer.MIN_VALUE, refusal);
            return this;
        }

        Asked high(int last, int answer, int refusal) {
            at(last, answer);
            beyond(last + 1, refusal);
            beyond(Integer.MAX_VALUE, refusal);
            return this;
        }

        private void at(int n, int answer) {
            check.due(sentence + " at " + n, ask.of(made.get(), n), answer);
        }

        private void beyond(int n, int refusal) {
            refused(sentence + " beyond, at " + n, made, x -> ask.of(x, n), refusal);
        }
    }

    /** All that can be asked of an object, what could be undone, its images and its text too; it is used up by this. */
    static List<Integer> trace(SaltLines x) {
        List<Integer> all = new ArrayList<>();
        all.add(x.fault());
        look(x, all);
        undoAll(x, all);
        for (int i = 0; i < 2; i++) {
            all.add(x.goBack(i));
            look(x, all);
        }
        all.add(x.house());
        all.add(x.fault());
        look(x, all);
        return all;
    }

    /** Some one by one and the rest at once, so that the object stays within its 512 calls. */
    private static void undoAll(SaltLines x, List<Integer> all) {
        int count = x.told(13);
        for (int i = 0; i < count; i++) {
            int n = i < 6 ? 1 : count - i;
            all.add(x.undo(n));
            look(x, all);
            if (n > 1) return;
        }
    }

    private static void look(SaltLines x, List<Integer> all) {
        for (int what = 0; what <= 13; what++) all.add(x.told(what));
        for (int d = 0; d < x.told(2); d++) {
            all.add(x.door(d, 2));
            all.add(x.door(d, 4));
        }
        for (int p = 0; p < x.told(3); p++) {
            all.add(x.person(p, 0));
            all.add(x.person(p, 1));
        }
        all.add(x.ills());
        all.add(x.judge());
        int seed = x.seed(0);
        x.seed(seed);
        all.add(seed);
    }
}
