import java.util.ArrayList;
import java.util.HashSet;
import java.util.List;
import java.util.Random;
import java.util.Set;

/**
 * What is tried comes true when it is done: each answer of section 3 is put to the test by deeds, or by another house,
 * on an object told alike. The houses are drawn with fixed seeds; no object is asked more than 512 times.
 */
public final class ComesTrueTest {
    private static final Check check = new Check("ComesTrueTest");

    public static void main(String[] args) {
        for (int run = 0; run < 150; run++) {
            String text = Calls.text(new Random(7919L * run + 3));
            rainComesAsTold(text);
            linesLastAsTold(text);
            linesAreMendedAsTold(text);
            waysCanBeGone(text);
            oneIsKeptOut(text);
            oneIsSoftened(text);
            oneOfThatIllIsInThatPart(text);
            oneOfTheWorstIllDoesNotCome(text);
            doorsAreNarrow(text);
            theFirstIsOfMostIll(text);
            shutInDoNotCome(text);
            saltIsShared(text);
            theBookIsRightUntilALineChanges(text);
            oneByOneIsAtOnce(text);
            anImageGoesOnAlike(text, run);
        }
        illIsFoundByLooking();
        dryIsOneHourMore();
        objectsShareNothing();
        check.end();
    }

    private static boolean inSet(int set, int k) {
        return (set >> k & 1) == 1;
    }

    private static void rainComesAsTold(String text) {
        SaltLines x = Check.told(text);
        SaltLines later = Check.told(text);
        for (int n = 0; n <= 99; n++) {
            check.due("RAIN behind " + n + " of " + text, x.rain(n), later.rain(0));
            later.hour(1);
        }
    }

    private static void linesLastAsTold(String text) {
        SaltLines x = Check.told(text);
        int first = SaltLines.NONE;
        int firstHours = SaltLines.NONE;
        for (int d = 0; d < x.told(2); d++) {
            int gone = goneBehind(text, d);
            check.due("lasts(" + d + ") of " + text, x.lasts(d), x.door(d, 3) == 1 ? gone : SaltLines.NONE);
            if (gone > 0 && (first == SaltLines.NONE || gone < firstHours)) {
                first = d;
                firstHours = gone;
            }
        }
        check.due("holds(0) of " + text, x.holds(0), first);
        check.due("holds(1) of " + text, x.holds(1), firstHours);
    }

    private static int goneBehind(String text, int d) {
        SaltLines x = Check.told(text);
        for (int n = 0; n <= 99; n++) {
            if (x.door(d, 2) == 0) return n;
            x.hour(1);
        }
        return SaltLines.NONE;
    }

    private static void linesAreMendedAsTold(String text) {
        SaltLines x = Check.told(text);
        SaltLines mended = Check.told(text);
        int[] lines = lines(x);
        int laid = 0;
        for (int n = 0; n <= 12; n++) {
            check.due("mend(" + n + ") of " + text, x.mend(n), laid);
            mended.hour(1);
            mended.buy(999);
            for (int d = 0; d < lines.length; d++) {
                int missing = lines[d] - mended.door(d, 2);
                if (missing == 0) continue;
                check.due("the LINE is as it was, " + text, mended.lay(d, missing), lines[d]);
                laid += missing;
            }
        }
    }

    private static int[] lines(SaltLines x) {
        int[] spoons = new int[x.told(2)];
        for (int d = 0; d < spoons.length; d++) spoons[d] = x.door(d, 2);
        return spoons;
    }

    /** Each DOOR is crossed once, so no LINE has less by it. */
    private static void waysCanBeGone(String text) {
        SaltLines x = Check.told(text);
        for (int p = 0; p < x.told(3); p++) {
            for (int a = 0; a < x.told(0); a++) {
                int doors = x.way(p, a, 0);
                check.isTrue("it COMES by a WAY, " + text, inSet(x.comers(a), p) == (doors != SaltLines.NONE));
                if (doors != SaltLines.NONE) goTheWay(text, p, a, doors);
            }
        }
    }

    private static void goTheWay(String text, int p, int a, int doors) {
        SaltLines x = Check.told(text);
        for (int left = doors; left > 0; left--) {
            check.due("DOORS left to ROOM " + a + " of " + text, x.way(p, a, 0), left);
            x.step(p, x.way(p, a, 1));
        }
        check.due("it is there, " + text, x.person(p, 0), a);
        check.due("it was not STOPPED, " + text, x.told(7), 0);
        check.due("that many DOORS, " + text, x.told(8), doors);
    }

    private static void oneIsKeptOut(String text) {
        SaltLines x = Check.told(text);
        for (int p = 0; p < x.told(3); p++) {
            for (int a = 0; a < x.told(0); a++) {
                int spoons = x.keepOut(p, a, 0);
                int lines = x.keepOut(p, a, 1);
                boolean comes = inSet(x.comers(a), p);
                if (spoons == SaltLines.NONE) {
                    check.isTrue("it COMES though all LINES are full, " + text, inSet(laidOn(text, p, -1, -1).comers(a), p));
                } else {
                    check.isTrue("0 if it does not COME, " + text, comes == (spoons != 0) && comes == (lines != 0));
                    keptOutBy(text, p, a, spoons, lines);
                }
            }
        }
    }

    private static void keptOutBy(String text, int p, int a, int spoons, int lines) {
        SaltLines kept = laidOn(text, p, lines, -1);
        check.due("so many spoons, " + text, kept.told(10) - Check.told(text).told(10), spoons);
        check.isTrue("it does not COME, " + text, !inSet(kept.comers(a), p));
        for (int d = 0; d < kept.told(2); d++) {
            if (!inSet(lines, d)) continue;
            check.isTrue("it COMES with a spoon less, " + text, inSet(laidOn(text, p, lines, d).comers(a), p));
        }
    }

    /** LAID on each LINE of the SET until it STOPS the PERSON; a spoon less on one LINE. */
    private static SaltLines laidOn(String text, int p, int lines, int less) {
        SaltLines x = Check.told(text);
        x.buy(999);
        for (int d = 0; d < x.told(2); d++) {
            for (int i = 0; i < 9 && inSet(lines, d) && x.stops(p, d) == 0 && x.door(d, 2) < 9; i++) {
                x.lay(d, 1);
                if (d == less && x.stops(p, d) == 1) x.undo(1);
                if (d == less && x.person(p, 2) + x.door(d, 2) == 9) break;
            }
        }
        return x;
    }

    private static void oneIsSoftened(String text) {
        SaltLines x = Check.told(text);
        for (int p = 0; p < x.told(3); p++) {
            for (int a = 0; a < x.told(0); a++) {
                int by = x.soften(p, a);
                for (int more = 0; more <= 9; more++) {
                    SaltLines softer = Check.told(text);
                    softer.wish(p, more);
                    boolean comes = inSet(softer.comers(a), p);
                    check.isTrue("it COMES by " + more + " and not by less than " + by + ", " + text, comes == (by != SaltLines.NONE && more >= by));
                }
            }
        }
    }

    private static String withoutPersons(String text) {
        return text.replaceAll("p[^;]*;", "");
    }

    private static void oneOfThatIllIsInThatPart(String text) {
        SaltLines x = Check.told(text);
        for (int ill = 0; ill <= 9; ill++) {
            Set<Integer> parts = new HashSet<>();
            for (int a = 0; a < x.told(0); a++) {
                SaltLines one = Check.told(withoutPersons(text) + "p" + a + " " + (9 - ill) + ";");
                check.due("parts(" + ill + ", " + a + ") of " + text, x.parts(ill, a), one.person(0, 3));
                parts.add(one.person(0, 3));
            }
            check.due("parts(" + ill + ", NONE) of " + text, x.parts(ill, SaltLines.NONE), parts.size());
        }
    }

    private static void oneOfTheWorstIllDoesNotCome(String text) {
        SaltLines x = Check.told(text);
        for (int ill = 0; ill <= 9; ill++) {
            SaltLines one = Check.told(withoutPersons(text) + "p0 " + (9 - ill) + ";");
            for (int a = 0; a < x.told(0); a++) {
                int worst = x.worst(a);
                check.isTrue("worst(" + a + ") by ILL " + ill + " of " + text, inSet(one.comers(a), 0) == (worst == SaltLines.NONE || ill < worst));
            }
        }
    }

    private static void doorsAreNarrow(String text) {
        SaltLines x = Check.told(text);
        List<String> clauses = new ArrayList<>(List.of(text.split("(?<=;)")));
        for (int d = 0; d < x.told(2); d++) {
            List<String> without = new ArrayList<>(clauses);
            without.remove(1 + d);
            int parts = Check.told(String.join("", without)).parts(0, SaltLines.NONE);
            check.isTrue("narrow(): DOOR " + d + " of " + text, inSet(x.narrow(), d) == (parts > x.parts(0, SaltLines.NONE)));
        }
    }

    private static void theFirstIsOfMostIll(String text) {
        SaltLines x = Check.told(text);
        int first = x.first();
        check.isTrue("NONE: none COMES, " + text, (first == SaltLines.NONE) == (x.comers(0) == 0));
        for (int p = 0; p < x.told(3) && first != SaltLines.NONE; p++) {
            if (!inSet(x.comers(0), p)) continue;
            boolean ahead = p < first ? x.person(p, 2) < x.person(first, 2) : x.person(p, 2) <= x.person(first, 2);
            check.isTrue("first() has more ILL than " + p + ", or is the lesser, " + text, ahead);
        }
    }

    private static void shutInDoNotCome(String text) {
        SaltLines x = Check.told(text);
        for (int p = 0; p < x.told(3); p++) {
            check.isTrue("SHUT IN: " + p + " of " + text, inSet(x.told(9), p) == ((x.person(p, 3) & 1) == 0));
        }
    }

    /** LAID one by one, in turn; a LINE that has 9 refuses its spoon. */
    private static void saltIsShared(String text) {
        SaltLines x = Check.told(text);
        SaltLines shared = Check.told(text);
        shared.buy(999);
        int[] lines = lines(x);
        int doors = lines.length;
        int spoons = 0;
        for (int turn = 0; turn <= 9 * doors; turn++) {
            int line = shared.lay(turn % doors, 1);
            if (line == SaltLines.NOT) continue;
            lines[turn % doors] = line;
            spoons++;
            int full = 0;
            for (int k : lines) if (k == 9) full++;
            check.due("share(" + spoons + ", 0) of " + text, x.share(spoons, 0), full);
            check.due("share(" + spoons + ", 1) of " + text, x.share(spoons, 1), 0);
        }
        check.due("all are full, " + text, shared.told(10), 9 * doors);
        check.due("nothing more is given, " + text, x.share(spoons + 5, 1), 5);
        check.due("all are full by more, " + text, x.share(spoons + 5, 0), doors);
    }

    private static void theBookIsRightUntilALineChanges(String text) {
        SaltLines x = Check.told(text);
        for (int d = 0; d < x.told(2); d++) x.write(d, x.door(d, 2));
        check.due("THE BOOK is right, " + text, x.judge(), SaltLines.NONE);
        for (int d = x.told(2) - 1; d >= 0; d--) {
            int was = x.judge();
            check.due("WRONG: DOOR " + d + " of " + text, x.sweep(d) == SaltLines.NOT ? was : d, x.judge());
        }
    }

    /** Of hours and draws n at once are as n times one. */
    private static void oneByOneIsAtOnce(String text) {
        SaltLines once = Check.told(text);
        SaltLines each = Check.told(text);
        for (int n : new int[] {1, 7, 30}) {
            int spoons = once.hour(n);
            int crossed = once.drift(n);
            int spoonsThen = 0;
            int crossedThen = 0;
            for (int i = 0; i < n; i++) spoonsThen = each.hour(1);
            for (int i = 0; i < n; i++) crossedThen = each.drift(1);
            check.due("hour(" + n + ") of " + text, spoons, spoonsThen);
            check.due("drift(" + n + ") of " + text, crossed, crossedThen);
        }
        check.isTrue("one by one is as at once, " + text, now(once).equals(now(each)));
    }

    private static List<Integer> now(SaltLines x) {
        List<Integer> all = new ArrayList<>();
        for (int what = 0; what <= 13; what++) all.add(x.told(what));
        for (int d = 0; d < all.get(2); d++) all.add(x.door(d, 2) * 1000 + x.door(d, 4));
        for (int p = 0; p < all.get(3); p++) all.add(x.person(p, 0) * 1000 + x.person(p, 1));
        all.add(x.seed(0));
        return all;
    }

    /** From an image the same draws come again, and what comes behind them is the same. */
    private static void anImageGoesOnAlike(String text, int run) {
        SaltLines x = Check.told(text);
        x.seed(run * 1234567);
        x.drift(20);
        x.keep(run % 2);
        int crossed = x.drift(30);
        int spoons = x.hour(3);
        int seed = x.seed(5);
        x.drift(9);
        x.goBack(run % 2);
        check.due("the same draws again, " + text, x.drift(30), crossed);
        check.due("the same hours again, " + text, x.hour(3), spoons);
        check.due("the same seed again, " + text, x.seed(5), seed);
    }

    /** One who looks where lookAt() says, at lines that stop or do not, knows the ill in the end. */
    private static void illIsFoundByLooking() {
        for (int ill = 0; ill <= 9; ill++) {
            SaltLines x = new SaltLines();
            for (int looks = 0; x.lookAt() != SaltLines.NONE && looks < 6; looks++) {
                int k = x.lookAt();
                SaltLines door = Check.told("h2 0;d0 1 " + k + " 0;p0 " + (9 - ill) + ";");
                x.see(k, door.step(0, 0) == 0);
                check.isTrue("ILL " + ill + " fits", inSet(x.ills(), ill));
            }
            check.due("ILL " + ill + " is found", x.ills(), 1 << ill);
            check.isTrue("by four looks at most", x.told(11) <= 4);
        }
    }

    private static void dryIsOneHourMore() {
        for (int q : new int[] {0, 1, 33, 50, 99, 100}) {
            SaltLines x = new SaltLines();
            for (int n = 0; n < 60; n++) check.due("dry(" + (n + 1) + ", " + q + ")", x.dry(n + 1, q), (int) ((long) x.dry(n, q) * q / 100));
        }
    }

    private static void objectsShareNothing() {
        SaltLines alone = Houses.rich();
        SaltLines beside = Houses.rich();
        SaltLines other = Houses.fullBook();
        other.house();
        other.see(1, true);
        other.seed(4);
        other.keep(0);
        other.hour(9);
        Check.feedAll(other, "h!");
        check.isTrue("an object beside another is as one alone", Bounds.trace(beside).equals(Bounds.trace(alone)));
        check.due("the other has its own hours", other.told(5), 9);
        check.due("the other has its own text", other.told(4), 2);
    }
}
