import java.util.function.ToIntFunction;

/** Section 3 of the document and promises 18 to 32, sentence by sentence: the bounds of what is tried. */
public final class BoundsTriedTest {
    private static final Check check = new Check("BoundsTriedTest");
    private static final Bounds bounds = new Bounds(check);
    private static final String ROW = "h8 0;d0 1 1 0;d1 2 2 0;d2 3 3 0;d3 4 4 0;d4 5 5 0;d5 6 6 0;d6 7 7 0;";

    public static void main(String[] args) {
        nothingChangesByIt();
        answersOfNoHouse();
        answersOfABareHouse();
        stopsRefusals();
        stopsWhereverItIs();
        comersBounds();
        comesAsLinesAre();
        shutIn();
        wayRefusals();
        wayIsThereOrNone();
        wayOfLikeOnesTheLeast();
        wayRoundTheHouse();
        keepOutRefusals();
        keepOutNone();
        keepOutZero();
        keepOutStoreIsNotLookedAt();
        keepOutOfLikeOnesTheLeast();
        keepOutOfTheLast();
        softenRefusals();
        softenZeroNineNone();
        partsRefusals();
        partsByIll();
        worstRefusals();
        worstZeroToNineNone();
        lastsRefusals();
        lastsZeroTo99();
        mendBounds();
        mendAsManyAsNow();
        holdsBounds();
        holdsZeroTo99();
        holdsOfLikeOnesTheLeast();
        mostCrossedNoneOrLeast();
        narrowDoors();
        firstNoneOrLeast();
        shareBounds();
        shareInTurn();
        dryBounds();
        dryIsCut();
        check.end();
    }

    private static void unchanged(String call, ToIntFunction<SaltLines> asked) {
        bounds.tried("nothing changes by " + call, Houses::rich, asked, asked.applyAsInt(Houses.rich()));
        bounds.tried("nothing changes by " + call + ", no house", Houses::noneButNotes, asked, asked.applyAsInt(Houses.noneButNotes()));
    }

    private static void nothingChangesByIt() {
        unchanged("told", x -> x.told(9));
        unchanged("door", x -> x.door(0, 5));
        unchanged("person", x -> x.person(0, 3));
        unchanged("room", x -> x.room(0));
        unchanged("rain", x -> x.rain(9));
        unchanged("fault", x -> x.fault());
        unchanged("stops", x -> x.stops(0, 0));
        unchanged("comers", x -> x.comers(2));
        unchanged("way", x -> x.way(0, 2, 1));
        unchanged("keepOut", x -> x.keepOut(0, 2, 0));
        unchanged("keepOut", x -> x.keepOut(0, 2, 1));
        unchanged("soften", x -> x.soften(0, 2));
        unchanged("parts", x -> x.parts(9, SaltLines.NONE));
        unchanged("parts", x -> x.parts(9, 0));
        unchanged("worst", x -> x.worst(2));
        unchanged("lasts", x -> x.lasts(0));
        unchanged("mend", x -> x.mend(99));
        unchanged("holds", x -> x.holds(1));
        unchanged("mostCrossed", x -> x.mostCrossed());
        unchanged("narrow", x -> x.narrow());
        unchanged("first", x -> x.first());
        unchanged("share", x -> x.share(999, 0));
        unchanged("share", x -> x.share(999, 1));
        unchanged("dry", x -> x.dry(60, 99));
        unchanged("ills", x -> x.ills());
        unchanged("lookAt", x -> x.lookAt());
        unchanged("judge", x -> x.judge());
    }

    private static void answersOfNoHouse() {
        SaltLines x = new SaltLines();
        check.due("no house: stops", x.stops(0, 0), SaltLines.UNKNOWN);
        check.due("no house: comers", x.comers(0), SaltLines.UNKNOWN);
        check.due("no house: way", x.way(0, 0, 0), SaltLines.UNKNOWN);
        check.due("no house: keepOut", x.keepOut(0, 0, 0), SaltLines.UNKNOWN);
        check.due("no house: soften", x.soften(0, 0), SaltLines.UNKNOWN);
        check.due("no house: worst", x.worst(0), SaltLines.UNKNOWN);
        check.due("no house: lasts", x.lasts(0), SaltLines.UNKNOWN);
        check.due("no house: mend", x.mend(99), 0);
        check.due("no house: holds(0)", x.holds(0), SaltLines.NONE);
        check.due("no house: holds(1)", x.holds(1), SaltLines.NONE);
        check.due("no house: mostCrossed", x.mostCrossed(), SaltLines.NONE);
        check.due("no house: narrow", x.narrow(), 0);
        check.due("no house: first", x.first(), SaltLines.NONE);
        check.due("no house: share(999, 0)", x.share(999, 0), 0);
        check.due("no house: share(999, 1)", x.share(999, 1), 999);
        check.due("no house: dry", x.dry(1, 50), 500000000);
        check.due("no house: SHUT IN", x.told(9), 0);
    }

    private static void answersOfABareHouse() {
        SaltLines x = Check.told("h2 0;");
        check.due("bare: comers", x.comers(1), 0);
        check.due("bare: parts", x.parts(0, SaltLines.NONE), 2);
        check.due("bare: the part", x.parts(0, 1), 2);
        check.due("bare: worst", x.worst(1), 0);
        check.due("bare: mend", x.mend(99), 0);
        check.due("bare: holds", x.holds(0), SaltLines.NONE);
        check.due("bare: mostCrossed", x.mostCrossed(), SaltLines.NONE);
        check.due("bare: narrow", x.narrow(), 0);
        check.due("bare: first", x.first(), SaltLines.NONE);
        check.due("bare: share(7, 0)", x.share(7, 0), 0);
        check.due("bare: share(7, 1)", x.share(7, 1), 7);
        check.due("bare: SHUT IN", x.told(9), 0);
    }

    private static void stopsRefusals() {
        bounds.of("stops: a PERSON", Houses::rich, (x, n) -> x.stops(n, 0)).low(0, 0, SaltLines.UNKNOWN).high(1, 0, SaltLines.UNKNOWN);
        bounds.of("stops: a DOOR", Houses::rich, (x, n) -> x.stops(0, n)).low(0, 0, SaltLines.UNKNOWN).high(1, 0, SaltLines.UNKNOWN);
        SaltLines full = Check.told(Houses.fullHouse());
        check.due("stops: the last of both", full.stops(5, 9), 1);
        check.due("stops: no seventh person", full.stops(6, 9), SaltLines.UNKNOWN);
        check.due("stops: no eleventh door", full.stops(5, 10), SaltLines.UNKNOWN);
    }

    private static void stopsWhereverItIs() {
        SaltLines x = Check.told("h4 0;d2 3 1 0;p0 0;p0 1;");
        check.due("wherever it is: 1", x.stops(0, 0), 1);
        check.due("wherever it is: 0", x.stops(1, 0), 0);
    }

    private static void comersBounds() {
        bounds.of("comers: a ROOM", Houses::rich, (x, n) -> x.comers(n)).low(0, 3, SaltLines.UNKNOWN).high(2, 3, SaltLines.UNKNOWN);
        SaltLines full = Check.told(Houses.fullHouse());
        check.due("comers: the first", full.comers(0), 27);
        check.due("comers: the eighth", full.comers(7), 30);
        check.due("comers: no ninth", full.comers(8), SaltLines.UNKNOWN);
        check.due("comers: all six", Check.told("h2 0;" + "p1 0;".repeat(6)).comers(1), 63);
        check.due("comers: none", Check.told("h2 0;" + "p1 0;".repeat(6)).comers(0), 0);
    }

    /** Whatever changes a LINE or an ILL changes who COMES: ILL 5 by 5 spoons and not by 4. */
    private static void comesAsLinesAre() {
        SaltLines x = Check.told("h2 9,0,1;d0 1 4 1;p1 4;p0 9;");
        check.due("4 spoons and 5: it COMES", x.comers(0), 3);
        x.lay(0, 1);
        check.due("LAID", x.comers(0), 2);
        check.due("LAID: SHUT IN", x.told(9), 1);
        check.due("LAID: its ROOMS", x.person(0, 3), 2);
        check.due("LAID: whom the LINE STOPS", x.door(0, 5), 1);
        x.hour(1);
        check.due("an HOUR without RAIN", x.comers(0), 2);
        x.hour(1);
        check.due("an HOUR with RAIN", x.comers(0), 3);
        x.undo(1);
        check.due("undone", x.comers(0), 2);
        for (int i = 0; i < 4; i++) x.step(1, 0);
        check.due("CROSSED for the fourth time", x.comers(0), 3);
        x.wish(0, -1);
        check.due("MOVED", x.comers(0), 2);
        x.sweep(0);
        check.due("SWEPT", x.comers(0), 3);
        x.lay(0, 4);
        check.due("LAID again: ILL 6 and 4", x.comers(0), 2);
        x.hour(23);
        check.due("24 HOURS: ILL 5, and no LINE is left by RAIN", x.person(0, 2), 5);
        check.due("24 HOURS", x.comers(0), 3);
    }

    private static void shutIn() {
        check.due("SHUT IN: who is in the YARD is not", Check.told("h2 0;p0 0;").told(9), 0);
        check.due("SHUT IN: without ill, without a door", Check.told("h2 0;p1 18;").told(9), 1);
        check.due("SHUT IN: all six", Check.told("h2 0;d0 1 9 0;" + "p1 8;".repeat(6)).told(9), 63);
        check.due("SHUT IN: none of six", Check.told("h2 0;d0 1 8 0;" + "p1 8;".repeat(6)).told(9), 0);
        SaltLines row = Check.told(ROW + "p7 7;p7 6;");
        check.due("SHUT IN: 7 spoons and 2, and 3", row.told(9), 2);
    }

    private static void wayRefusals() {
        bounds.of("way: a PERSON", Houses::rich, (x, n) -> x.way(n, 2, 0)).low(0, 2, SaltLines.UNKNOWN).high(1, 1, SaltLines.UNKNOWN);
        bounds.of("way: a ROOM", Houses::rich, (x, n) -> x.way(0, n, 0)).low(0, 0, SaltLines.UNKNOWN).high(2, 2, SaltLines.UNKNOWN);
        bounds.of("way: what 0, 1", Houses::rich, (x, n) -> x.way(1, 2, n)).low(0, 1, SaltLines.OUTSIDE).high(1, 1, SaltLines.OUTSIDE);
        bounds.refused("way: UNKNOWN ahead of OUTSIDE", Houses::rich, x -> x.way(2, 0, 2), SaltLines.UNKNOWN);
        bounds.refused("way: UNKNOWN ahead of OUTSIDE", Houses::rich, x -> x.way(0, 3, -1), SaltLines.UNKNOWN);
    }

    private static void wayIsThereOrNone() {
        SaltLines x = Check.told("h3 0;d0 1 9 0;p0 0;p0 9;");
        check.due("it is there: 0 DOORS", x.way(0, 0, 0), 0);
        check.due("it is there: NONE first", x.way(0, 0, 1), SaltLines.NONE);
        SaltLines wide = Check.told("h3 0;d0 1 0 0;d1 2 0 0;d2 0 0 0;p0 9;p1 9;p2 0;");
        for (int p = 0; p < 3; p++) {
            check.due("it is there, by open DOORS: 0 of " + p, wide.way(p, p, 0), 0);
            check.due("it is there, by open DOORS: NONE of " + p, wide.way(p, p, 1), SaltLines.NONE);
        }
        check.due("it does not COME: how many", x.way(0, 1, 0), SaltLines.NONE);
        check.due("it does not COME: the first", x.way(0, 1, 1), SaltLines.NONE);
        check.due("no door: how many", x.way(1, 2, 0), SaltLines.NONE);
        check.due("no door: the first", x.way(1, 2, 1), SaltLines.NONE);
        check.due("one door", x.way(1, 1, 0), 1);
        check.due("the first is DOOR 0", x.way(1, 1, 1), 0);
    }

    private static void wayOfLikeOnesTheLeast() {
        SaltLines x = Check.told("h4 0;d1 3 0 0;d2 3 0 0;d0 2 0 0;d0 1 0 0;p0 9;p3 9;");
        check.due("two ways of two: the least first DOOR", x.way(0, 3, 1), 2);
        check.due("two ways of two, back", x.way(1, 0, 1), 0);
        check.due("how many", x.way(0, 3, 0), 2);
        SaltLines longer = Check.told("h3 0;d0 1 0 0;d1 2 0 0;d0 2 0 0;p0 9;");
        check.due("the fewest, though a longer way begins with less", longer.way(0, 2, 1), 2);
        check.due("the fewest", longer.way(0, 2, 0), 1);
        SaltLines salted = Check.told("h4 0;d0 1 5 0;d1 3 0 0;d0 2 0 0;d2 3 0 0;p0 4;");
        check.due("not by a DOOR that STOPS it", salted.way(0, 3, 1), 2);
    }

    private static void wayRoundTheHouse() {
        SaltLines x = Check.told(ROW + "p0 7;p0 8;p7 9;");
        check.due("seven DOORS, by 7 spoons and 2", x.way(0, 7, 0), 7);
        check.due("the seventh from the other end", x.way(2, 0, 1), 6);
        for (int a = 0; a < 8; a++) {
            check.due("to ROOM " + a, x.way(1, a, 0), a);
            check.due("to ROOM " + a + ", back", x.way(2, a, 0), 7 - a);
        }
    }

    private static void keepOutRefusals() {
        bounds.of("keepOut: a PERSON", Houses::rich, (x, n) -> x.keepOut(n, 2, 0)).low(0, 1, SaltLines.UNKNOWN).high(1, 6, SaltLines.UNKNOWN);
        bounds.of("keepOut: a ROOM", Houses::rich, (x, n) -> x.keepOut(0, n, 0))
            .low(0, SaltLines.NONE, SaltLines.UNKNOWN).high(2, 1, SaltLines.UNKNOWN);
        bounds.of("keepOut: what 0, 1", Houses::rich, (x, n) -> x.keepOut(1, 2, n)).low(0, 6, SaltLines.OUTSIDE).high(1, 2, SaltLines.OUTSIDE);
        bounds.refused("keepOut: UNKNOWN ahead of OUTSIDE", Houses::rich, x -> x.keepOut(2, 0, 2), SaltLines.UNKNOWN);
        bounds.refused("keepOut: UNKNOWN ahead of OUTSIDE", Houses::rich, x -> x.keepOut(0, 3, -1), SaltLines.UNKNOWN);
        bounds.refused("keepOut: OUTSIDE, though it is there", Houses::rich, x -> x.keepOut(0, 0, 2), SaltLines.OUTSIDE);
    }

    private static void keepOutNone() {
        SaltLines x = Check.told("h3 0;d0 1 0 0;p0 0;p0 9;p0 18;p0 8;");
        for (int what = 0; what <= 1; what++) {
            check.due("it is there", x.keepOut(0, 0, what), SaltLines.NONE);
            check.due("it is there, without ILL", x.keepOut(1, 0, what), SaltLines.NONE);
            check.due("WISH 0 has no ILL, and COMES", x.keepOut(1, 1, what), SaltLines.NONE);
            check.due("WISH 9 has no ILL, and COMES", x.keepOut(2, 1, what), SaltLines.NONE);
        }
        check.due("ILL 1 can be kept out", x.keepOut(3, 1, 0), 9);
        check.due("ILL 9 can be kept out", x.keepOut(0, 1, 0), 1);
    }

    private static void keepOutZero() {
        SaltLines x = Check.told("h3 0;d0 1 9 0;p0 0;p0 9;");
        for (int what = 0; what <= 1; what++) {
            check.due("0: it does not COME", x.keepOut(0, 1, what), 0);
            check.due("0: no door", x.keepOut(0, 2, what), 0);
            check.due("0: without ILL, and it does not COME", x.keepOut(1, 2, what), 0);
        }
    }

    private static void keepOutStoreIsNotLookedAt() {
        for (int ill = 1; ill <= 9; ill++) {
            SaltLines x = Check.told("h2 0;d0 1 0 0;p0 " + (9 - ill) + ";");
            check.due("STORE is empty, ILL " + ill, x.keepOut(0, 1, 0), 10 - ill);
            for (int k = 1; k < 10 - ill; k++) {
                SaltLines y = Check.told("h2 0;d0 1 " + k + " 0;p0 " + (9 - ill) + ";");
                check.due("spoons " + k + ", ILL " + ill, y.keepOut(0, 1, 0), 10 - ill - k);
            }
        }
    }

    private static void keepOutOfLikeOnesTheLeast() {
        SaltLines like = Check.told("h4 0;d2 3 5 0;d1 2 5 0;d0 1 5 0;p0 8;");
        check.due("three LINES like", like.keepOut(0, 3, 0), 4);
        check.due("three LINES like: the least SET", like.keepOut(0, 3, 1), 1);
        SaltLines two = Check.told("h4 0;d0 1 6 0;d0 2 6 0;d1 3 6 0;d2 3 6 0;p0 8;");
        check.due("two of four LINES", two.keepOut(0, 3, 0), 6);
        check.due("two of four LINES: the least SET", two.keepOut(0, 3, 1), 3);
        SaltLines back = Check.told("h4 0;d1 3 6 0;d2 3 6 0;d0 1 6 0;d0 2 6 0;p0 8;");
        check.due("two of four LINES, told otherwise", back.keepOut(0, 3, 1), 3);
        SaltLines mixed = Check.told("h4 0;d0 1 6 0;d1 3 6 0;d2 3 6 0;d0 2 6 0;p0 8;");
        check.due("two of four LINES, mixed", mixed.keepOut(0, 3, 1), 5);
        SaltLines most = Check.told("h4 0;d0 1 3 0;d1 2 6 0;d1 3 6 0;d2 3 6 0;p0 8;");
        check.due("fewest spoons, not fewest LINES", most.keepOut(0, 3, 1), 1);
        SaltLines least = Check.told("h4 0;d1 2 6 0;d1 3 6 0;d2 3 6 0;d0 1 3 0;p0 8;");
        check.due("the least SET has more LINES", least.keepOut(0, 3, 1), 3);
    }

    private static void keepOutOfTheLast() {
        SaltLines x = Check.told(ROW + "p0 7;p7 7;");
        check.due("the last of seven LINES", x.keepOut(0, 7, 0), 1);
        check.due("the last of seven LINES: which", x.keepOut(0, 7, 1), 64);
        check.due("the first of seven LINES", x.keepOut(0, 1, 0), 7);
        check.due("from the last ROOM", x.keepOut(1, 0, 1), 64);
        SaltLines ten = Check.told("h8 0;d0 1 0 0;d0 2 0 0;d0 3 0 0;d0 4 0 0;d0 5 0 0;d1 6 0 0;d2 6 0 0;d3 6 0 0;d4 6 0 0;d5 6 0 0;p0 8;");
        check.due("five of ten LINES", ten.keepOut(0, 6, 0), 45);
        check.due("five of ten LINES: which", ten.keepOut(0, 6, 1), 31);
        check.due("to one of them", ten.keepOut(0, 1, 0), 18);
        check.due("to one of them: the first and the sixth", ten.keepOut(0, 1, 1), 33);
    }

    private static void softenRefusals() {
        bounds.of("soften: a PERSON", Houses::rich, (x, n) -> x.soften(n, 2)).low(0, 0, SaltLines.UNKNOWN).high(1, 0, SaltLines.UNKNOWN);
        bounds.of("soften: a ROOM", Houses::rich, (x, n) -> x.soften(0, n)).low(0, 0, SaltLines.UNKNOWN).high(2, 0, SaltLines.UNKNOWN);
    }

    private static void softenZeroNineNone() {
        for (int k = 1; k <= 9; k++) {
            SaltLines x = Check.told("h2 0;d0 1 " + k + " 0;p0 0;");
            check.due("ILL 9 by " + k + " spoons", x.soften(0, 1), k);
        }
        SaltLines x = Check.told("h3 0;d0 1 9 0;p0 0;p0 8;p0 9;p0 18;");
        check.due("by 9", x.soften(0, 1), 9);
        check.due("by 1", x.soften(1, 1), 1);
        check.due("0 if it does", x.soften(2, 1), 0);
        check.due("0 if it is there", x.soften(0, 0), 0);
        check.due("NONE: not even by 9", x.soften(0, 2), SaltLines.NONE);
        check.due("NONE: without ILL", x.soften(3, 2), SaltLines.NONE);
        SaltLines row = Check.told(ROW + "p0 0;");
        int[] want = {0, 1, 2, 3, 4, 5, 6, 7};
        for (int a = 0; a < 8; a++) check.due("by the most of the row to ROOM " + a, row.soften(0, a), want[a]);
    }

    private static void partsRefusals() {
        bounds.of("parts: x 0 .. 9, how many", Houses::rich, (x, n) -> x.parts(n, SaltLines.NONE))
            .low(0, 1, SaltLines.OUTSIDE).high(9, 2, SaltLines.OUTSIDE);
        bounds.of("parts: x 0 .. 9, the part", Houses::rich, (x, n) -> x.parts(n, 0)).low(0, 7, SaltLines.OUTSIDE).high(9, 1, SaltLines.OUTSIDE);
        bounds.of("parts: a ROOM", Houses::rich, (x, n) -> x.parts(9, n)).low(-1, 2, SaltLines.UNKNOWN).high(2, 6, SaltLines.UNKNOWN);
        check.due("parts: ROOM 0", Houses.rich().parts(9, 0), 1);
        bounds.refused("parts: UNKNOWN ahead of OUTSIDE", Houses::rich, x -> x.parts(10, 3), SaltLines.UNKNOWN);
        bounds.refused("parts: UNKNOWN ahead of OUTSIDE", Houses::rich, x -> x.parts(-1, -2), SaltLines.UNKNOWN);
        bounds.refused("parts: NOT: no HOUSE", Houses::noneButNotes, x -> x.parts(0, SaltLines.NONE), SaltLines.NOT);
        bounds.refused("parts: OUTSIDE ahead of NOT", Houses::noneButNotes, x -> x.parts(10, SaltLines.NONE), SaltLines.OUTSIDE);
        bounds.refused("parts: OUTSIDE ahead of NOT", Houses::noneButNotes, x -> x.parts(-1, SaltLines.NONE), SaltLines.OUTSIDE);
        bounds.refused("parts: UNKNOWN ahead of NOT", Houses::noneButNotes, x -> x.parts(0, 0), SaltLines.UNKNOWN);
        bounds.refused("parts: UNKNOWN ahead of all", Houses::noneButNotes, x -> x.parts(10, 0), SaltLines.UNKNOWN);
    }

    private static void partsByIll() {
        SaltLines x = Check.told(ROW);
        int[] count = {1, 1, 1, 2, 3, 4, 5, 6, 7, 8};
        for (int ill = 0; ill <= 9; ill++) check.due("parts by ILL " + ill, x.parts(ill, SaltLines.NONE), count[ill]);
        check.due("the part of the YARD by ILL 9", x.parts(9, 0), 1);
        check.due("the part of the last ROOM by ILL 9", x.parts(9, 7), 128);
        check.due("the part of the last ROOM by ILL 3", x.parts(3, 7), 128);
        check.due("the part of the YARD by ILL 3", x.parts(3, 0), 127);
        check.due("the part of the last ROOM by ILL 2", x.parts(2, 7), 255);
        check.due("by ILL 0 no LINE shuts", Check.told("h2 0;d0 1 9 0;").parts(0, SaltLines.NONE), 1);
        check.due("by ILL 0 rooms without a door are shut", Check.told("h8 0;").parts(0, SaltLines.NONE), 8);
    }

    private static void worstRefusals() {
        bounds.of("worst: a ROOM", Houses::rich, (x, n) -> x.worst(n)).low(0, SaltLines.NONE, SaltLines.UNKNOWN).high(2, 7, SaltLines.UNKNOWN);
    }

    private static void worstZeroToNineNone() {
        for (int k = 1; k <= 9; k++) check.due("by " + k + " spoons", Check.told("h2 0;d0 1 " + k + " 0;").worst(1), 10 - k);
        check.due("NONE: no LINE", Check.told("h2 0;d0 1 0 0;").worst(1), SaltLines.NONE);
        check.due("NONE: the YARD", Check.told("h2 0;d0 1 9 0;").worst(0), SaltLines.NONE);
        check.due("0: no door", Check.told("h3 0;d0 1 9 0;").worst(2), 0);
        SaltLines row = Check.told(ROW);
        for (int a = 1; a < 8; a++) check.due("worst(" + a + ") of a row", row.worst(a), 10 - a);
        check.due("the best of two ways", Check.told("h3 0;d0 1 9 0;d0 2 3 0;d2 1 4 0;").worst(1), 6);
    }

    private static void lastsRefusals() {
        bounds.of("lasts: a DOOR", Houses::rich, (x, n) -> x.lasts(n)).low(0, 2, SaltLines.UNKNOWN).high(1, SaltLines.NONE, SaltLines.UNKNOWN);
        check.due("lasts: the tenth", Check.told(Houses.fullHouse()).lasts(9), 9);
        check.due("lasts: no eleventh", Check.told(Houses.fullHouse()).lasts(10), SaltLines.UNKNOWN);
    }

    private static void lastsZeroTo99() {
        check.due("0: it has none", Check.told("h2 0,3;d0 1 0 1;").lasts(0), 0);
        check.due("0: it has none, no RAIN", Check.told("h2 0;d0 1 0 1;").lasts(0), 0);
        check.due("1: as many as the RAIN", Check.told("h2 0,3;d0 1 3 1;").lasts(0), 1);
        check.due("1: fewer than the RAIN", Check.told("h2 0,3;d0 1 2 1;").lasts(0), 1);
        check.due("2: one more than the RAIN", Check.told("h2 0,3;d0 1 4 1;").lasts(0), 2);
        check.due("NONE: not in the open", Check.told("h2 0,3;d0 1 9 0;").lasts(0), SaltLines.NONE);
        check.due("NONE: no RAIN", Check.told("h2 0;d0 1 1 1;").lasts(0), SaltLines.NONE);
        check.due("NONE: RAIN of 0", Check.told("h2 0,0,0;d0 1 1 1;").lasts(0), SaltLines.NONE);
        check.due("98", Check.told("h2 0,0,1,0,0,0,0,0,0,0,0,0,0;d0 1 9 1;").lasts(0), 98);
        check.due("99", Check.told("h2 0,0,0,1,0,0,0,0,0,0,0,0,0;d0 1 9 1;").lasts(0), 99);
        check.due("NONE: 100", Check.told("h2 0,0,0,0,1,0,0,0,0,0,0,0,0;d0 1 9 1;").lasts(0), SaltLines.NONE);
        SaltLines later = Check.told("h2 0,0,0,0,1,0,0,0,0,0,0,0,0;d0 1 9 1;");
        later.hour(1);
        check.due("100, an HOUR later", later.lasts(0), 99);
        later.hour(3);
        check.due("a spoon less, from HOUR 4 on", later.lasts(0), 96);
    }

    private static void mendBounds() {
        bounds.of("mend: n 0 .. 99", Houses::rich, (x, n) -> x.mend(n)).low(0, 0, SaltLines.OUTSIDE).high(99, 148, SaltLines.OUTSIDE);
        bounds.of("mend: n 0 .. 99, no house", Houses::noneButNotes, (x, n) -> x.mend(n)).low(0, 0, SaltLines.OUTSIDE).high(99, 0, SaltLines.OUTSIDE);
        check.due("the most: ten LINES, 3 each HOUR", Check.told("h8 0,3;" + Houses.tenDoors()).mend(99), 2970);
    }

    private static void mendAsManyAsNow() {
        check.due("a LINE of 1 has 1 less at most", Check.told("h2 0,3;d0 1 1 1;").mend(1), 1);
        check.due("a LINE of 3", Check.told("h2 0,3;d0 1 3 1;").mend(1), 3);
        check.due("a LINE of 4", Check.told("h2 0,3;d0 1 4 1;").mend(1), 3);
        check.due("behind each of them", Check.told("h2 0,3;d0 1 4 1;").mend(2), 6);
        check.due("a LINE that has none now", Check.told("h2 0,3;d0 1 0 1;").mend(99), 0);
        check.due("a LINE not in the open", Check.told("h2 0,3;d0 1 9 0;").mend(99), 0);
        check.due("no RAIN", Check.told("h2 0;d0 1 9 1;").mend(99), 0);
        check.due("STORE is not looked at, nor the LAID", Check.told("h2 0,1;d0 1 9 1;").mend(99), 99);
    }

    private static void holdsBounds() {
        bounds.of("holds: what 0, 1", Houses::rich, (x, n) -> x.holds(n)).low(0, 0, SaltLines.OUTSIDE).high(1, 2, SaltLines.OUTSIDE);
        bounds.of("holds: what 0, 1, no house", Houses::noneButNotes, (x, n) -> x.holds(n))
            .low(0, SaltLines.NONE, SaltLines.OUTSIDE).high(1, SaltLines.NONE, SaltLines.OUTSIDE);
    }

    private static void holdsZeroTo99() {
        SaltLines last = Check.told("h2 0,0,0,1,0,0,0,0,0,0,0,0,0;d0 1 9 1;");
        check.due("gone behind 99", last.holds(0), 0);
        check.due("behind how many", last.holds(1), 99);
        SaltLines never = Check.told("h2 0,0,0,0,1,0,0,0,0,0,0,0,0;d0 1 9 1;");
        check.due("gone behind 100: NONE", never.holds(0), SaltLines.NONE);
        check.due("gone behind 100: NONE", never.holds(1), SaltLines.NONE);
        SaltLines none = Check.told("h3 0,3;d0 1 0 1;d1 2 9 0;");
        check.due("NONE: none with 1 or more in the open", none.holds(0), SaltLines.NONE);
        check.due("NONE: none with 1 or more in the open", none.holds(1), SaltLines.NONE);
        SaltLines one = Check.told("h3 0,3;d0 1 0 1;d1 2 1 1;");
        check.due("with 1 or more: not the LINE that has none", one.holds(0), 1);
        check.due("with 1 or more: behind 1", one.holds(1), 1);
        SaltLines dry = Check.told("h2 0;d0 1 9 1;");
        check.due("NONE: no RAIN", dry.holds(0), SaltLines.NONE);
        check.due("NONE: no RAIN", dry.holds(1), SaltLines.NONE);
    }

    private static void holdsOfLikeOnesTheLeast() {
        SaltLines x = Check.told("h4 0,3;d0 1 7 1;d1 2 4 1;d2 3 6 1;d3 0 5 1;");
        check.due("of like ones the least", x.holds(0), 1);
        check.due("of like ones the least: behind 2", x.holds(1), 2);
        check.due("the first of all", Check.told("h3 0,3;d0 1 1 1;d1 2 1 1;").holds(0), 0);
        check.due("the tenth", Check.told("h8 0,1;" + Houses.tenDoors().replace("d0 4 9 1", "d0 4 8 1")).holds(0), 9);
    }

    private static void mostCrossedNoneOrLeast() {
        SaltLines x = Check.told("h3 0;d0 1 9 0;d1 2 0 0;p0 0;p1 9;");
        check.due("NONE: none was", x.mostCrossed(), SaltLines.NONE);
        x.step(0, 0);
        check.due("NONE: STOPPED is not CROSSED", x.mostCrossed(), SaltLines.NONE);
        x.step(1, 1);
        check.due("once", x.mostCrossed(), 1);
        x.step(1, 1);
        x.step(1, 0);
        x.step(1, 0);
        check.due("of like ones the least", x.mostCrossed(), 0);
        x.step(1, 1);
        check.due("the most", x.mostCrossed(), 1);
        check.due("NONE of ten", Check.told("h8 0;" + Houses.tenDoors() + "p7 0;").mostCrossed(), SaltLines.NONE);
        SaltLines ten = Check.told(Houses.fullHouse());
        ten.step(1, 9);
        check.due("the tenth", ten.mostCrossed(), 9);
    }

    private static void narrowDoors() {
        check.due("all of a row", Check.told(ROW).narrow(), 127);
        check.due("none of a ring", Check.told(ROW + "d7 0 9 0;").narrow(), 0);
        check.due("by ILL 0: LINES are not looked at", Check.told("h3 0;d0 1 9 0;d1 2 9 0;d2 0 9 0;").narrow(), 0);
        check.due("rooms without a door are parts already", Check.told("h8 0;d6 7 9 0;").narrow(), 1);
        check.due("the tenth alone", Check.told("h7 0;d0 1 0 0;d1 2 0 0;d2 3 0 0;d3 4 0 0;d4 5 0 0;d5 0 0 0;d0 2 0 0;d0 3 0 0;d0 4 0 0;d5 6 0 0;").narrow(), 512);
    }

    private static void firstNoneOrLeast() {
        check.due("NONE: no PERSONS", Check.told("h2 0;").first(), SaltLines.NONE);
        check.due("NONE: none COMES", Check.told("h2 0;d0 1 9 0;p1 8;p1 0;").first(), SaltLines.NONE);
        check.due("of like ones the least", Check.told("h2 0;d0 1 8 0;p1 7;p1 8;p0 8;").first(), 1);
        check.due("the most ILL of those who COME", Check.told("h2 0;d0 1 8 0;p1 7;p1 8;p0 7;").first(), 2);
        check.due("the sixth", Check.told("h2 0;p0 1;p0 1;p0 1;p0 1;p0 1;p0 0;").first(), 5);
        check.due("the first of six", Check.told("h2 0;" + "p0 0;".repeat(6)).first(), 0);
        check.due("without ILL, of like ones the least", Check.told("h2 0;d0 1 9 0;p1 8;p1 18;p0 9;").first(), 1);
    }

    private static void shareBounds() {
        bounds.of("share: x 0 .. 999, full", Houses::rich, (x, n) -> x.share(n, 0)).low(0, 0, SaltLines.OUTSIDE).high(999, 2, SaltLines.OUTSIDE);
        bounds.of("share: x 0 .. 999, left", Houses::rich, (x, n) -> x.share(n, 1)).low(0, 0, SaltLines.OUTSIDE).high(999, 984, SaltLines.OUTSIDE);
        bounds.of("share: what 0, 1", Houses::rich, (x, n) -> x.share(20, n)).low(0, 2, SaltLines.OUTSIDE).high(1, 5, SaltLines.OUTSIDE);
        bounds.refused("share: both OUTSIDE", Houses::rich, x -> x.share(-1, 2), SaltLines.OUTSIDE);
    }

    private static void shareInTurn() {
        SaltLines x = Check.told("h4 0;d0 1 7 0;d1 2 9 0;d2 3 8 0;d3 0 6 0;");
        int[] full = {1, 1, 2, 2, 3, 3, 4, 4};
        for (int n = 0; n < full.length; n++) {
            check.due("share(" + n + ", 0)", x.share(n, 0), full[n]);
            check.due("share(" + n + ", 1)", x.share(n, 1), Math.max(0, n - 6));
        }
        SaltLines empty = Check.told("h3 0;d0 1 0 0;d1 2 0 0;");
        int[] some = {15, 16, 17, 18, 19};
        int[] then = {0, 0, 1, 2, 2};
        for (int i = 0; i < some.length; i++) check.due("share(" + some[i] + ", 0) of empty LINES", empty.share(some[i], 0), then[i]);
        check.due("just none left", empty.share(18, 1), 0);
        check.due("one left", empty.share(19, 1), 1);
        SaltLines nine = Check.told(Houses.fullHouse());
        check.due("all have 9", nine.share(0, 0), 10);
        check.due("all have 9: all is left", nine.share(999, 1), 999);
        SaltLines ten = Check.told("h8 0;" + Houses.tenDoors().replace(" 9 1;", " 0 1;"));
        check.due("ten empty LINES: 80", ten.share(80, 0), 0);
        check.due("ten empty LINES: 81", ten.share(81, 0), 1);
        check.due("ten empty LINES: 89", ten.share(89, 0), 9);
        check.due("ten empty LINES: 90", ten.share(90, 0), 10);
        check.due("ten empty LINES: 90 leave", ten.share(90, 1), 0);
        check.due("ten empty LINES: 91 leave", ten.share(91, 1), 1);
    }

    private static void dryBounds() {
        bounds.of("dry: n 0 .. 60", Houses::rich, (x, n) -> x.dry(n, 100)).low(0, 1000000000, SaltLines.OUTSIDE).high(60, 1000000000, SaltLines.OUTSIDE);
        bounds.of("dry: q 0 .. 100", Houses::rich, (x, n) -> x.dry(1, n)).low(0, 0, SaltLines.OUTSIDE).high(100, 1000000000, SaltLines.OUTSIDE);
        bounds.of("dry: q 0 .. 100, no HOURS", Houses::none, (x, n) -> x.dry(0, n)).low(0, 1000000000, SaltLines.OUTSIDE).high(100, 1000000000, SaltLines.OUTSIDE);
        bounds.refused("dry: both OUTSIDE", Houses::rich, x -> x.dry(61, 101), SaltLines.OUTSIDE);
    }

    private static void dryIsCut() {
        SaltLines x = new SaltLines();
        check.due("one of a hundred", x.dry(1, 1), 10000000);
        check.due("4 HOURS by 1: 10", x.dry(4, 1), 10);
        check.due("5 HOURS by 1: cut to 0", x.dry(5, 1), 0);
        check.due("60 HOURS by 0", x.dry(60, 0), 0);
        check.due("cut each time, not at the end", x.dry(6, 33), 1291467);
        int odds = 1000000000;
        for (int n = 1; n <= 60; n++) {
            odds = (int) ((long) odds * 77 / 100);
            check.due("dry(" + n + ", 77)", x.dry(n, 77), odds);
        }
    }
}
