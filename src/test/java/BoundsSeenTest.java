/** Section 3 of the document and promises 33 to 41, sentence by sentence: what was seen, the book, the seed, images. */
public final class BoundsSeenTest {
    private static final Check check = new Check("BoundsSeenTest");
    private static final Bounds bounds = new Bounds(check);

    public static void main(String[] args) {
        seeBounds();
        seeSixAtMost();
        illsByEachLine();
        illsAllAndNone();
        lookAtNone();
        lookAtOfLikeOnesTheLeast();
        writeBounds();
        writeTwentyAtMost();
        judgeTheFirst();
        judgeNone();
        tearBoth();
        seedBounds();
        seedGoesRound();
        keepBounds();
        keepOverAnImage();
        goBackBounds();
        goBackBringsAllOfSection2();
        goBackLeavesNotes();
        notesAreNoDeeds();
        undoLeavesNotes();
        check.end();
    }

    private static void seeBounds() {
        bounds.of("see: k 0 .. 9", Houses::rich, (x, n) -> x.see(n, true)).low(0, 3, SaltLines.OUTSIDE).high(9, 3, SaltLines.OUTSIDE);
        bounds.of("see: k 0 .. 9, not stopped", Houses::rich, (x, n) -> x.see(n, false)).low(0, 3, SaltLines.OUTSIDE).high(9, 3, SaltLines.OUTSIDE);
        bounds.of("see: k 0 .. 9, no house", Houses::none, (x, n) -> x.see(n, true)).low(0, 1, SaltLines.OUTSIDE).high(9, 1, SaltLines.OUTSIDE);
    }

    private static void seeSixAtMost() {
        SaltLines x = new SaltLines();
        for (int i = 1; i <= 6; i++) check.due("SEEN: " + i, x.see(0, false), i);
        bounds.refused("6 at most", Houses::fullSeen, y -> y.see(5, true), SaltLines.FULL);
        bounds.refused("6 at most, the least k", Houses::fullSeen, y -> y.see(0, true), SaltLines.FULL);
        bounds.refused("6 at most, the greatest k", Houses::fullSeen, y -> y.see(9, false), SaltLines.FULL);
        bounds.refused("see: OUTSIDE ahead of FULL", Houses::fullSeen, y -> y.see(10, true), SaltLines.OUTSIDE);
        bounds.refused("see: OUTSIDE ahead of FULL", Houses::fullSeen, y -> y.see(-1, true), SaltLines.OUTSIDE);
        SaltLines torn = Houses.fullSeen();
        torn.tear();
        check.due("room again behind tear()", torn.see(0, false), 1);
        SaltLines six = new SaltLines();
        for (int i = 1; i <= 5; i++) six.see(0, false);
        six.see(9, true);
        check.due("the sixth counts", six.ills(), 1022);
    }

    private static void illsByEachLine() {
        for (int k = 0; k <= 9; k++) {
            SaltLines stopped = new SaltLines();
            SaltLines not = new SaltLines();
            stopped.see(k, true);
            not.see(k, false);
            int set = 0;
            for (int ill = 10 - k; ill <= 9; ill++) set |= 1 << ill;
            check.due("STOPPED by " + k, stopped.ills(), set);
            check.due("not STOPPED by " + k, not.ills(), 1023 - set);
        }
    }

    private static void illsAllAndNone() {
        check.due("nothing SEEN: all ten", new SaltLines().ills(), 1023);
        SaltLines x = new SaltLines();
        x.see(0, true);
        check.due("a LINE without salt STOPS none", x.ills(), 0);
        SaltLines y = new SaltLines();
        y.see(9, true);
        y.see(8, false);
        check.due("ILL 1 alone", y.ills(), 2);
        y.see(9, false);
        check.due("none fits", y.ills(), 0);
        SaltLines z = new SaltLines();
        z.see(1, true);
        check.due("ILL 9 alone", z.ills(), 512);
        SaltLines none = new SaltLines();
        none.see(9, false);
        check.due("ILL 0 alone", none.ills(), 1);
    }

    private static void lookAtNone() {
        SaltLines one = new SaltLines();
        one.see(1, true);
        check.due("NONE: one alone", one.lookAt(), SaltLines.NONE);
        one.see(1, false);
        check.due("NONE: none fits", one.lookAt(), SaltLines.NONE);
        SaltLines two = new SaltLines();
        two.see(8, false);
        check.due("0 and 1 are parted by 9 alone", two.lookAt(), 9);
        SaltLines top = new SaltLines();
        top.see(2, true);
        check.due("8 and 9 are parted by 1 alone", top.lookAt(), 1);
    }

    private static void lookAtOfLikeOnesTheLeast() {
        check.due("ten: five and five", new SaltLines().lookAt(), 5);
        SaltLines x = new SaltLines();
        x.see(9, true);
        check.due("nine: 4 and 5 spoons like", x.lookAt(), 4);
        SaltLines y = new SaltLines();
        y.see(3, true);
        check.due("7, 8, 9: 1 and 2 spoons like", y.lookAt(), 1);
        SaltLines z = new SaltLines();
        z.see(7, false);
        check.due("0, 1, 2: 8 and 9 spoons like", z.lookAt(), 8);
    }

    private static void writeBounds() {
        bounds.of("write: a DOOR", Houses::rich, (x, n) -> x.write(n, 0)).low(0, 3, SaltLines.UNKNOWN).high(1, 3, SaltLines.UNKNOWN);
        bounds.of("write: spoons 0 .. 9", Houses::rich, (x, n) -> x.write(0, n)).low(0, 3, SaltLines.OUTSIDE).high(9, 3, SaltLines.OUTSIDE);
        bounds.refused("write: UNKNOWN ahead of OUTSIDE", Houses::rich, x -> x.write(2, 10), SaltLines.UNKNOWN);
        bounds.refused("write: UNKNOWN ahead of OUTSIDE", Houses::rich, x -> x.write(-1, -1), SaltLines.UNKNOWN);
        bounds.refused("write: no house", Houses::noneButNotes, x -> x.write(0, 0), SaltLines.UNKNOWN);
        bounds.refused("write: no house, OUTSIDE", Houses::noneButNotes, x -> x.write(0, 10), SaltLines.UNKNOWN);
        check.due("write: the tenth", Check.told(Houses.fullHouse()).write(9, 9), 1);
        check.due("write: no eleventh", Check.told(Houses.fullHouse()).write(10, 9), SaltLines.UNKNOWN);
    }

    private static void writeTwentyAtMost() {
        SaltLines x = Check.told("h2 0;d0 1 4 0;");
        for (int i = 1; i <= 20; i++) check.due("THE BOOK: " + i, x.write(0, 4), i);
        bounds.refused("20 at most", Houses::fullBook, y -> y.write(0, 4), SaltLines.FULL);
        bounds.refused("write: OUTSIDE ahead of FULL", Houses::fullBook, y -> y.write(0, 10), SaltLines.OUTSIDE);
        bounds.refused("write: OUTSIDE ahead of FULL", Houses::fullBook, y -> y.write(0, -1), SaltLines.OUTSIDE);
        bounds.refused("write: UNKNOWN ahead of FULL", Houses::fullBook, y -> y.write(2, 4), SaltLines.UNKNOWN);
        bounds.refused("write: UNKNOWN ahead of all", Houses::fullBook, y -> y.write(-1, 10), SaltLines.UNKNOWN);
        SaltLines torn = Houses.fullBook();
        torn.tear();
        check.due("room again behind tear()", torn.write(0, 0), 1);
    }

    private static void judgeTheFirst() {
        SaltLines x = Check.told("h3 9;d0 1 4 0;d1 2 0 0;");
        for (int i = 0; i < 19; i++) x.write(0, 4);
        x.write(1, 9);
        check.due("WRONG: the last of twenty", x.judge(), 19);
        x.lay(0, 1);
        check.due("WRONG: the first that is otherwise now", x.judge(), 0);
        x.undo(1);
        x.lay(1, 9);
        check.due("NONE of twenty", x.judge(), SaltLines.NONE);
        x.tear();
        x.write(0, 4);
        x.write(0, 5);
        x.write(1, 8);
        check.due("WRONG: the second", x.judge(), 1);
        SaltLines more = Check.told("h2 0;d0 1 4 0;");
        more.write(0, 3);
        check.due("otherwise: more now", more.judge(), 0);
        SaltLines less = Check.told("h2 0;d0 1 4 0;");
        less.write(0, 5);
        check.due("otherwise: less now", less.judge(), 0);
    }

    private static void judgeNone() {
        check.due("NONE: no house", new SaltLines().judge(), SaltLines.NONE);
        SaltLines x = Check.told("h3 0;d0 1 9 0;d1 2 0 0;");
        check.due("NONE: no entries", x.judge(), SaltLines.NONE);
        x.write(0, 9);
        x.write(1, 0);
        check.due("NONE: all are so", x.judge(), SaltLines.NONE);
    }

    private static void tearBoth() {
        check.due("nothing: 0", new SaltLines().tear(), 0);
        SaltLines both = Houses.fullBook();
        for (int i = 2; i < 6; i++) both.see(i, true);
        check.due("both full: 26", both.tear(), 26);
        check.due("nothing SEEN", both.told(11), 0);
        check.due("nothing SEEN: all fit", both.ills(), 1023);
        check.due("no BOOK", both.told(12), 0);
        check.due("no BOOK: NONE is WRONG", both.judge(), SaltLines.NONE);
        check.due("nothing more: 0", both.tear(), 0);
        check.due("deeds stay", both.told(13), 6);
        check.due("SEEN alone", Houses.noneButNotes().tear(), 1);
        SaltLines book = Check.told("h2 0;d0 1 4 0;");
        book.write(0, 4);
        check.due("THE BOOK alone", book.tear(), 1);
    }

    private static void seedBounds() {
        check.due("THE SEED: 0 at first", new SaltLines().seed(3), 0);
        bounds.of("seed: v 0 .. 2147483647", Houses::rich, (x, n) -> x.seed(n)).low(0, 7, SaltLines.OUTSIDE);
        SaltLines x = new SaltLines();
        check.due("seed(2147483647)", x.seed(2147483647), 0);
        check.due("it was 2147483647", x.seed(0), 2147483647);
        check.due("it was 0", x.seed(1), 0);
        bounds.refused("seed: OUTSIDE", Houses::noneButNotes, y -> y.seed(-1), SaltLines.OUTSIDE);
    }

    /** It times 1103515245 and 12345, left over by 2 to the 31. */
    private static void seedGoesRound() {
        int[] from = {0, 1, 12345, 1073741824, 2147483646, 2147483647};
        long[] want = new long[from.length];
        for (int i = 0; i < from.length; i++) want[i] = (from[i] * 1103515245L + 12345L) % 2147483648L;
        for (int i = 0; i < from.length; i++) {
            SaltLines x = Check.told("h2 0;");
            x.seed(from[i]);
            x.drift(1);
            check.due("HOURS by the DRAW of 6 behind " + from[i], x.told(5), want[i] / 65536 % 6 == 0 ? 1 : 0);
            check.due("THE SEED behind " + from[i], x.seed(0), (int) want[i]);
        }
    }

    private static void keepBounds() {
        bounds.of("keep: IMAGES 0, 1", Houses::rich, (x, n) -> x.keep(n)).low(0, 1, SaltLines.UNKNOWN).high(1, 1, SaltLines.UNKNOWN);
        bounds.of("keep: IMAGES 0, 1, no house", Houses::noneButNotes, (x, n) -> x.keep(n)).low(0, 1, SaltLines.UNKNOWN).high(1, 1, SaltLines.UNKNOWN);
        SaltLines x = Houses.rich();
        x.keep(0);
        check.due("nothing can be undone then", x.told(13), 0);
        check.due("nothing can be undone then", x.undo(1), SaltLines.NOT);
    }

    private static void keepOverAnImage() {
        SaltLines x = Check.told("h2 5;");
        x.keep(0);
        x.buy(1);
        x.keep(1);
        x.buy(1);
        x.keep(0);
        x.buy(1);
        x.goBack(1);
        check.due("IMAGE 1 is as it was", x.told(6), 6);
        x.goBack(0);
        check.due("IMAGE 0 is the latest kept", x.told(6), 7);
        SaltLines both = Check.told(Houses.fullHouse());
        both.keep(1);
        both.sweep(0);
        both.keep(0);
        both.goBack(1);
        for (int d = 0; d < 10; d++) check.due("IMAGE 1 is whole: LINE " + d, both.door(d, 2), 9);
        both.goBack(0);
        for (int d = 0; d < 10; d++) check.due("IMAGE 0 is whole: LINE " + d, both.door(d, 2), d == 0 ? 0 : 9);
    }

    private static void goBackBounds() {
        bounds.of("goBack: IMAGES 0, 1", Houses::rich, (x, n) -> x.goBack(n)).low(0, 1, SaltLines.UNKNOWN).high(1, 1, SaltLines.UNKNOWN);
        bounds.refused("goBack: it was not kept", Houses::noneButNotes, x -> x.goBack(0), SaltLines.NOT);
        bounds.refused("goBack: UNKNOWN ahead of NOT", Houses::none, x -> x.goBack(2), SaltLines.UNKNOWN);
        bounds.refused("goBack: UNKNOWN ahead of NOT", Houses::none, x -> x.goBack(-1), SaltLines.UNKNOWN);
        SaltLines one = Check.told("h2 0;");
        one.keep(0);
        check.due("goBack: the other was not kept", one.goBack(1), SaltLines.NOT);
        check.due("goBack: this one was", one.goBack(0), 1);
        check.due("goBack: it can be twice", one.goBack(0), 1);
        SaltLines x = Houses.rich();
        x.goBack(0);
        check.due("nothing can be undone then", x.told(13), 0);
        check.due("nothing can be undone then", x.undo(1), SaltLines.NOT);
    }

    private static void goBackBringsAllOfSection2() {
        SaltLines x = Houses.rich();
        x.goBack(1);
        int[] want = {3, 2, 2, 2, 21, 1, 20, 0, 1, 0, 9, 2, 2, 0};
        for (int what = 0; what < want.length; what++) check.due("IMAGE 1: told(" + what + ")", x.told(what), want[what]);
        check.due("IMAGE 1: the ROOM", x.person(1, 0), 1);
        check.due("IMAGE 1: the WISH", x.person(1, 1), 9);
        check.due("IMAGE 1: CROSSED", x.door(1, 4), 1);
        check.due("IMAGE 1: THE SEED", x.seed(5), 99);
        x.goBack(0);
        check.due("IMAGE 0: the ROOM", x.person(1, 0), 2);
        check.due("IMAGE 0: CROSSED", x.door(1, 4), 0);
        check.due("IMAGE 0: THE SEED", x.seed(5), 1234);
        SaltLines all = Check.told(Houses.fullHouse());
        all.keep(1);
        all.drift(30);
        all.hour(30);
        for (int p = 0; p < 6; p++) all.wish(p, 5);
        for (int d = 0; d < 10; d++) all.lay(d, 9);
        all.goBack(1);
        SaltLines fresh = Check.told(Houses.fullHouse());
        for (int d = 0; d < 10; d++) check.due("all LINES again: " + d, all.door(d, 2), fresh.door(d, 2));
        for (int p = 0; p < 6; p++) check.due("all WISHES again: " + p, all.person(p, 1), fresh.person(p, 1));
        for (int p = 0; p < 6; p++) check.due("all ROOMS again: " + p, all.person(p, 0), fresh.person(p, 0));
        check.due("HOURS again", all.told(5), 0);
        check.due("CROSSED again", all.told(8), 0);
        check.due("STOPPED again", all.told(7), 0);
    }

    private static void goBackLeavesNotes() {
        SaltLines x = Houses.rich();
        x.goBack(0);
        check.due("what was SEEN stays", x.told(11), 2);
        check.due("THE BOOK stays", x.told(12), 2);
        check.due("THE TEXT stays", x.told(4), 21);
        check.due("the place of the FAULT stays", x.fault(), 1);
    }

    /** Deeds are HOURS, step(), lay(), sweep(), buy(), wish() and times BY DRAWS, and nothing else. */
    private static void notesAreNoDeeds() {
        SaltLines x = Houses.rich();
        x.see(4, true);
        check.due("see() is no deed", x.told(13), 6);
        x.write(0, 1);
        check.due("write() is no deed", x.told(13), 6);
        x.tear();
        check.due("tear() is no deed", x.told(13), 6);
        x.seed(3);
        check.due("seed() is no deed", x.told(13), 6);
        x.feed('!');
        check.due("feed() is no deed", x.told(13), 6);
        x.house();
        check.due("house() with a fault is no deed", x.told(13), 6);
        x.undo(1);
        check.due("undo() is no deed", x.told(13), 5);
        check.due("the sweep is undone", x.door(1, 2), 6);
    }

    private static void undoLeavesNotes() {
        SaltLines x = Houses.rich();
        x.undo(6);
        check.due("what was SEEN stays", x.told(11), 2);
        check.due("what was SEEN stays: ILLS", x.ills(), Houses.rich().ills());
        check.due("THE BOOK stays", x.told(12), 2);
        check.due("THE TEXT stays", x.told(4), 21);
        check.due("the place of the FAULT stays", x.fault(), 1);
        check.due("THE SEED stays", x.seed(0), 7);
        check.due("IMAGES stay", x.goBack(0), 1);
        check.due("IMAGES stay", x.goBack(1), 1);
    }
}
