/** Section 2 of the document and promises 10 to 17, sentence by sentence: the bounds of what changes. */
public final class BoundsDeedsTest {
    private static final Check check = new Check("BoundsDeedsTest");
    private static final Bounds bounds = new Bounds(check);

    public static void main(String[] args) {
        illIsWhatWishIsBelow0();
        lineStopsFromTenTogether();
        stepIsStopped();
        stepCrosses();
        stepRefusals();
        eachFourthTime();
        fourthTimesSinceTheText();
        rainTakes0AtLeast();
        hoursGoRound();
        each24Hours();
        hourRefusals();
        hoursAbove90000();
        layBounds();
        layRefusals();
        sweepHalfCut();
        sweepStore999AtMost();
        sweepRefusals();
        buyBounds();
        wishBounds();
        driftBounds();
        driftDraws();
        driftWithoutPersonsOrDoors();
        undoBounds();
        undoThirtyAtMost();
        undoThirtyOfAFullHouse();
        undoEachKind();
        undoSinceTextOrImage();
        check.end();
    }

    private static void illIsWhatWishIsBelow0() {
        SaltLines x = Check.told("h2 0;p0 0;p0 8;p0 9;p0 10;p0 18;");
        int[] want = {9, 1, 0, 0, 0};
        for (int p = 0; p < 5; p++) check.due("ILL: what its WISH is below 0, of " + p, x.person(p, 2), want[p]);
    }

    /** All spoons by all wishes: both are 10 or more together, and neither is 0. */
    private static void lineStopsFromTenTogether() {
        for (int k = 0; k <= 9; k++) {
            for (int w = 0; w <= 18; w++) {
                SaltLines x = Check.told("h2 0;d0 1 " + k + " 0;p0 " + w + ";");
                int ill = w < 9 ? 9 - w : 0;
                int stops = k >= 1 && ill >= 1 && k + ill >= 10 ? 1 : 0;
                check.due("spoons " + k + ", ill " + ill + ": stops", x.stops(0, 0), stops);
                check.due("spoons " + k + ", ill " + ill + ": step", x.step(0, 0), 1 - stops);
            }
        }
        check.due("1 spoon and 9", Check.told("h2 0;d0 1 1 0;p0 0;").stops(0, 0), 1);
        check.due("9 spoons and 1", Check.told("h2 0;d0 1 9 0;p0 8;").stops(0, 0), 1);
        check.due("0 spoons and 9", Check.told("h2 0;d0 1 0 0;p0 0;").stops(0, 0), 0);
        check.due("9 spoons and 0", Check.told("h2 0;d0 1 9 0;p0 9;").stops(0, 0), 0);
        check.due("8 spoons and 1", Check.told("h2 0;d0 1 8 0;p0 8;").stops(0, 0), 0);
    }

    private static void stepIsStopped() {
        SaltLines x = Check.told("h2 0;d0 1 4 0;p0 3;");
        for (int i = 1; i <= 8; i++) {
            check.due("if it is STOPPED, as ahead", x.step(0, 0), 0);
            check.due("that is counted", x.told(7), i);
            check.due("it is a deed", x.told(13), i);
        }
        check.due("nothing is CROSSED", x.told(8), 0);
        check.due("nothing is CROSSED of the DOOR", x.door(0, 4), 0);
        check.due("its LINE has no spoon less", x.door(0, 2), 4);
    }

    private static void stepCrosses() {
        SaltLines x = Check.told("h3 0;d0 2 4 0;d1 0 0 0;p0 4;p2 9;");
        check.due("by the B side", x.step(0, 0), 2);
        check.due("by the A side", x.step(1, 0), 0);
        check.due("a door told the other way", x.step(1, 1), 1);
        check.due("CROSSED of the DOOR", x.door(0, 4), 2);
        check.due("CROSSED of the other DOOR", x.door(1, 4), 1);
        check.due("CROSSED in all", x.told(8), 3);
        check.due("none STOPPED", x.told(7), 0);
    }

    private static void stepRefusals() {
        bounds.of("step: a PERSON", Houses::rich, (x, n) -> x.step(n, 0)).low(0, 1, SaltLines.UNKNOWN).high(1, 0, SaltLines.UNKNOWN);
        bounds.of("step: a DOOR", Houses::rich, (x, n) -> x.step(1, n)).low(0, 0, SaltLines.UNKNOWN).high(1, 2, SaltLines.UNKNOWN);
        bounds.refused("step: the DOOR is not of its ROOM", Houses::rich, x -> x.step(0, 1), SaltLines.NOT);
        bounds.refused("step: no house", Houses::noneButNotes, x -> x.step(0, 0), SaltLines.UNKNOWN);
        SaltLines x = Check.told("h4 0;d0 1 0 0;d2 3 0 0;p0 9;p1 9;p2 9;p3 9;");
        int[][] want = {{1, SaltLines.NOT}, {0, SaltLines.NOT}, {SaltLines.NOT, 3}, {SaltLines.NOT, 2}};
        for (int p = 0; p < 4; p++) {
            for (int d = 0; d < 2; d++) check.due("step(" + p + ", " + d + ") from its own room", x.step(p, d), want[p][d]);
        }
        check.due("step: no seventh person", Check.told(Houses.fullHouse()).step(6, 0), SaltLines.UNKNOWN);
        check.due("step: no eleventh door", Check.told(Houses.fullHouse()).step(1, 10), SaltLines.UNKNOWN);
        check.due("step: the last person by the first door", Check.told(Houses.fullHouse()).step(5, 0), SaltLines.NOT);
        check.due("step: the last door", Check.told(Houses.fullHouse()).step(1, 9), 4);
    }

    private static void eachFourthTime() {
        SaltLines x = Check.told("h2 0;d0 1 2 0;p0 9;p1 9;");
        int[] want = {2, 2, 2, 1, 1, 1, 1, 0, 0, 0, 0, 0, 0};
        for (int i = 0; i < want.length; i++) {
            x.step(i % 2, 0);
            check.due("behind crossing " + (i + 1), x.door(0, 2), want[i]);
            check.due("crossings are counted on", x.door(0, 4), i + 1);
        }
    }

    private static void fourthTimesSinceTheText() {
        SaltLines two = Check.told("h3 0;d0 1 5 0;d1 2 5 0;p0 9;");
        for (int i = 0; i < 3; i++) two.step(0, 0);
        check.due("one and the same DOOR: the other's first is no fourth", two.step(0, 1), 2);
        check.due("one and the same DOOR", two.told(10), 10);
        two.step(0, 1);
        two.step(0, 0);
        check.due("the fourth of the first", two.door(0, 2), 4);
        check.due("the second of the other", two.door(1, 2), 5);
        SaltLines laid = Check.told("h2 9;d0 1 0 0;p0 9;");
        for (int i = 0; i < 3; i++) laid.step(0, 0);
        laid.lay(0, 5);
        laid.step(0, 0);
        check.due("counted since the text, not since it was LAID", laid.door(0, 2), 4);
        laid.keep(0);
        for (int i = 0; i < 3; i++) laid.step(0, 0);
        laid.goBack(0);
        for (int i = 0; i < 3; i++) laid.step(0, 0);
        check.due("an IMAGE keeps the count", laid.door(0, 2), 4);
        laid.undo(1);
        laid.step(0, 0);
        check.due("what is undone is not counted", laid.door(0, 2), 4);
        laid.step(0, 0);
        check.due("the eighth", laid.door(0, 2), 3);
    }

    private static void rainTakes0AtLeast() {
        SaltLines x = Check.told("h5 0,3;d0 1 2 1;d1 2 3 1;d2 3 4 1;d3 4 2 0;d0 4 0 1;");
        check.due("spoons on all LINES", x.hour(1), 3);
        int[] want = {0, 0, 1, 2, 0};
        for (int d = 0; d < 5; d++) check.due("0 at least: door " + d, x.door(d, 2), want[d]);
        check.due("0 at least", x.hour(30), 2);
        check.due("not in the open: as it was", x.door(3, 2), 2);
    }

    /** HOURS are counted from 0, HOUR k has the number of k left over by how many. */
    private static void hoursGoRound() {
        SaltLines x = Check.told("h2 9,2,0,1;d0 1 9 1;");
        int[] want = {7, 7, 6, 4, 4, 3, 1};
        for (int k = 0; k < want.length; k++) {
            check.due("HOURS ahead of HOUR " + k, x.told(5), k);
            check.due("behind HOUR " + k, x.hour(1), want[k]);
        }
        SaltLines twelve = Check.told("h2 9,0,0,0,0,0,0,0,0,0,0,0,3;d0 1 9 1;");
        check.due("HOURS 0 .. 10", twelve.hour(11), 9);
        check.due("HOUR 11", twelve.hour(1), 6);
        check.due("HOURS 12 .. 22", twelve.hour(11), 6);
        check.due("HOUR 23", twelve.hour(1), 3);
    }

    private static void each24Hours() {
        SaltLines x = Check.told("h2 0;p0 0;p0 7;p0 8;p0 9;p0 10;p0 18;");
        int[][] want = {{0, 7, 8, 9, 10, 18}, {1, 8, 9, 9, 9, 17}, {1, 8, 9, 9, 9, 17}, {2, 9, 9, 9, 9, 16}};
        int[] hours = {23, 1, 23, 1};
        for (int i = 0; i < 4; i++) {
            x.hour(hours[i]);
            for (int p = 0; p < 6; p++) check.due("at HOURS " + x.told(5) + " of " + p, x.person(p, 1), want[i][p]);
        }
        for (int i = 0; i < 7; i++) x.hour(24);
        for (int p = 0; p < 6; p++) check.due("at HOURS 216 of " + p, x.person(p, 1), 9);
        SaltLines away = Check.told("h8 5;d0 1 9 0;p7 0;p6 0;p5 0;p4 0;p3 0;p2 0;");
        away.hour(24);
        for (int p = 0; p < 6; p++) check.due("WISHES alone: the ROOM of " + p, away.person(p, 0), 7 - p);
        check.due("WISHES alone: HOURS", away.told(5), 24);
        check.due("WISHES alone: STORE", away.told(6), 5);
        check.due("WISHES alone: the LINE", away.door(0, 2), 9);
        SaltLines one = Check.told("h2 0;p0 0;");
        one.hour(30);
        check.due("30 HOURS at once: one nearer", one.person(0, 1), 1);
        one.hour(18);
        check.due("48 HOURS: two nearer", one.person(0, 1), 2);
        one.undo(1);
        check.due("the 48th undone", one.person(0, 1), 1);
    }

    private static void hourRefusals() {
        bounds.of("hour: n 1 .. 30", Houses::rich, (x, n) -> x.hour(n)).low(1, 2, SaltLines.OUTSIDE).high(30, 0, SaltLines.OUTSIDE);
        SaltLines x = Houses.rich();
        x.hour(30);
        check.due("hour(30): HOURS", x.told(5), 32);
        bounds.of("hour: OUTSIDE ahead of NOT", Houses::noneButNotes, (y, n) -> y.hour(n))
            .low(1, SaltLines.NOT, SaltLines.OUTSIDE).high(30, SaltLines.NOT, SaltLines.OUTSIDE);
        bounds.refused("hour: NOT: no HOUSE", Houses::noneButNotes, y -> y.hour(1), SaltLines.NOT);
    }

    private static void hoursAbove90000() {
        SaltLines x = Houses.hours(90000);
        check.due("HOURS", x.told(5), 90000);
        check.due("90000 is not above 90000 (as it is called)", x.hour(30), 0);
        check.due("HOURS", x.told(5), 90030);
        check.due("drift at 90000", Houses.hours(90000).drift(30) > 0 ? 1 : 0, 1);
        bounds.refused("FULL: HOURS are above 90000", () -> Houses.hours(90001), y -> y.hour(1), SaltLines.FULL);
        bounds.refused("FULL: HOURS are above 90000, by draws", () -> Houses.hours(90001), y -> y.drift(1), SaltLines.FULL);
        bounds.refused("OUTSIDE ahead of FULL", () -> Houses.hours(90001), y -> y.hour(31), SaltLines.OUTSIDE);
        bounds.refused("OUTSIDE ahead of FULL", () -> Houses.hours(90001), y -> y.hour(0), SaltLines.OUTSIDE);
        bounds.refused("OUTSIDE ahead of FULL, by draws", () -> Houses.hours(90001), y -> y.drift(31), SaltLines.OUTSIDE);
        bounds.refused("OUTSIDE ahead of FULL, by draws", () -> Houses.hours(90001), y -> y.drift(0), SaltLines.OUTSIDE);
        SaltLines full = Houses.hours(90001);
        check.due("other deeds are not FULL", full.buy(1), 6);
        full.undo(2);
        check.due("undone to 90000", full.hour(1), 0);
    }

    private static void layBounds() {
        bounds.of("lay: k 1 .. 9", () -> Check.told("h2 9;d0 1 0 0;"), (x, n) -> x.lay(0, n))
            .low(1, 1, SaltLines.OUTSIDE).high(9, 9, SaltLines.OUTSIDE);
        bounds.of("LAID: 9 at most", () -> Check.told("h2 99;d0 1 4 0;"), (x, n) -> x.lay(0, n)).low(1, 5, SaltLines.OUTSIDE);
        check.due("LAID: 9 is not more than 9", Check.told("h2 99;d0 1 4 0;").lay(0, 5), 9);
        bounds.refused("LAID: the LINE would have more than 9", () -> Check.told("h2 99;d0 1 4 0;"), x -> x.lay(0, 6), SaltLines.NOT);
        bounds.refused("LAID: the LINE has 9", () -> Check.told("h2 99;d0 1 9 0;"), x -> x.lay(0, 1), SaltLines.NOT);
        check.due("STORE has just so many", Check.told("h2 3;d0 1 4 0;").lay(0, 3), 7);
        bounds.refused("STORE has not so many", () -> Check.told("h2 3;d0 1 4 0;"), x -> x.lay(0, 4), SaltLines.NOT);
        bounds.refused("STORE is empty", () -> Check.told("h2 0;d0 1 4 0;"), x -> x.lay(0, 1), SaltLines.NOT);
        SaltLines x = Check.told("h2 3;d0 1 4 0;");
        x.lay(0, 3);
        check.due("spoons from STORE", x.told(6), 0);
    }

    private static void layRefusals() {
        bounds.of("lay: a DOOR", Houses::rich, (x, n) -> x.lay(n, 1)).low(0, 4, SaltLines.UNKNOWN).high(1, 1, SaltLines.UNKNOWN);
        bounds.refused("lay: UNKNOWN ahead of OUTSIDE", Houses::rich, x -> x.lay(2, 0), SaltLines.UNKNOWN);
        bounds.refused("lay: UNKNOWN ahead of OUTSIDE", Houses::rich, x -> x.lay(-1, 10), SaltLines.UNKNOWN);
        bounds.refused("lay: UNKNOWN ahead of NOT", () -> Check.told("h2 0;d0 1 9 0;"), x -> x.lay(1, 1), SaltLines.UNKNOWN);
        bounds.refused("lay: OUTSIDE ahead of NOT", () -> Check.told("h2 0;d0 1 9 0;"), x -> x.lay(0, 10), SaltLines.OUTSIDE);
        bounds.refused("lay: OUTSIDE ahead of NOT", () -> Check.told("h2 0;d0 1 9 0;"), x -> x.lay(0, 0), SaltLines.OUTSIDE);
        bounds.refused("lay: OUTSIDE, though the LINE had room", () -> Check.told("h2 99;d0 1 5 0;"), x -> x.lay(0, -1), SaltLines.OUTSIDE);
        bounds.refused("lay: no house", Houses::noneButNotes, x -> x.lay(0, 1), SaltLines.UNKNOWN);
    }

    private static void sweepHalfCut() {
        for (int k = 1; k <= 9; k++) {
            SaltLines x = Check.told("h2 10;d0 1 " + k + " 0;");
            check.due("half of " + k + " (cut)", x.sweep(0), 10 + k / 2);
            check.due("a LINE has none", x.door(0, 2), 0);
        }
    }

    private static void sweepStore999AtMost() {
        check.due("STORE 995 and 4", Check.told("h2 995;d0 1 9 0;").sweep(0), 999);
        check.due("STORE 996 and 4", Check.told("h2 996;d0 1 9 0;").sweep(0), 999);
        check.due("STORE 994 and 4", Check.told("h2 994;d0 1 9 0;").sweep(0), 998);
        check.due("STORE 999 and 0", Check.told("h2 999;d0 1 1 0;").sweep(0), 999);
    }

    private static void sweepRefusals() {
        bounds.of("sweep: a DOOR", () -> Check.told("h3 0;d0 1 4 0;d1 2 6 0;"), (x, n) -> x.sweep(n))
            .low(0, 2, SaltLines.UNKNOWN).high(1, 3, SaltLines.UNKNOWN);
        bounds.refused("sweep: it has none", Houses::rich, x -> x.sweep(1), SaltLines.NOT);
        bounds.refused("sweep: UNKNOWN ahead of NOT", Houses::rich, x -> x.sweep(2), SaltLines.UNKNOWN);
        bounds.refused("sweep: no house", Houses::noneButNotes, x -> x.sweep(0), SaltLines.UNKNOWN);
        check.due("sweep: 1 is some", Check.told("h2 0;d0 1 1 0;").sweep(0), 0);
    }

    private static void buyBounds() {
        bounds.of("buy: n 1 .. 999", Houses::rich, (x, n) -> x.buy(n)).low(1, 25, SaltLines.OUTSIDE).high(999, 999, SaltLines.OUTSIDE);
        check.due("999 at most: 998 and 1", Check.told("h2 998;").buy(1), 999);
        check.due("999 at most: 999 and 1", Check.told("h2 999;").buy(1), 999);
        check.due("999 at most: 998 and 2", Check.told("h2 998;").buy(2), 999);
        check.due("999 at most: 0 and 998", Check.told("h2 0;").buy(998), 998);
        check.due("999 at most: 0 and 999", Check.told("h2 0;").buy(999), 999);
        check.due("999 at most: 999 and 999", Check.told("h2 999;").buy(999), 999);
        SaltLines full = Check.told("h2 999;");
        full.buy(1);
        check.due("into a full STORE is a deed", full.told(13), 1);
        bounds.of("buy: OUTSIDE ahead of NOT", Houses::noneButNotes, (x, n) -> x.buy(n))
            .low(1, SaltLines.NOT, SaltLines.OUTSIDE).high(999, SaltLines.NOT, SaltLines.OUTSIDE);
        bounds.refused("buy: NOT: no HOUSE", Houses::noneButNotes, x -> x.buy(1), SaltLines.NOT);
    }

    private static void wishBounds() {
        bounds.of("wish: by -9 .. 9", Houses::rich, (x, n) -> x.wish(0, n)).low(-9, 0, SaltLines.OUTSIDE).high(9, 12, SaltLines.OUTSIDE);
        bounds.of("wish: a PERSON", Houses::rich, (x, n) -> x.wish(n, 1)).low(0, 4, SaltLines.UNKNOWN).high(1, 6, SaltLines.UNKNOWN);
        bounds.refused("wish: UNKNOWN ahead of OUTSIDE", Houses::rich, x -> x.wish(2, 10), SaltLines.UNKNOWN);
        bounds.refused("wish: UNKNOWN ahead of OUTSIDE", Houses::rich, x -> x.wish(-1, -10), SaltLines.UNKNOWN);
        bounds.refused("wish: no house", Houses::noneButNotes, x -> x.wish(0, 0), SaltLines.UNKNOWN);
        check.due("9 at most: just 9", Check.told("h2 0;p0 14;").wish(0, 4), 18);
        check.due("9 at most: 10", Check.told("h2 0;p0 14;").wish(0, 5), 18);
        check.due("9 at most: from 9", Check.told("h2 0;p0 18;").wish(0, 9), 18);
        check.due("9 at most: 8", Check.told("h2 0;p0 14;").wish(0, 3), 17);
        check.due("9 below 0 at least: just", Check.told("h2 0;p0 4;").wish(0, -4), 0);
        check.due("9 below 0 at least: 10", Check.told("h2 0;p0 4;").wish(0, -5), 0);
        check.due("9 below 0 at least: from 9 below", Check.told("h2 0;p0 0;").wish(0, -9), 0);
        check.due("9 below 0 at least: 8", Check.told("h2 0;p0 4;").wish(0, -3), 1);
        SaltLines x = Check.told("h2 0;p0 4;");
        check.due("by 0", x.wish(0, 0), 4);
        check.due("by 0 is a deed", x.told(13), 1);
    }

    private static void driftBounds() {
        bounds.of("drift: n 1 .. 30", () -> Check.told("h2 0;"), (x, n) -> x.drift(n)).low(1, 0, SaltLines.OUTSIDE).high(30, 0, SaltLines.OUTSIDE);
        bounds.of("drift: OUTSIDE ahead of NOT", Houses::noneButNotes, (x, n) -> x.drift(n))
            .low(1, SaltLines.NOT, SaltLines.OUTSIDE).high(30, SaltLines.NOT, SaltLines.OUTSIDE);
        bounds.refused("drift: NOT: no HOUSE", Houses::noneButNotes, x -> x.drift(1), SaltLines.NOT);
        bounds.refused("drift: OUTSIDE", Houses::rich, x -> x.drift(0), SaltLines.OUTSIDE);
        bounds.refused("drift: OUTSIDE", Houses::rich, x -> x.drift(31), SaltLines.OUTSIDE);
        SaltLines one = Check.told("h2 0;");
        one.drift(1);
        check.due("one time is one deed", one.told(13), 1);
        SaltLines thirty = Check.told("h2 0;");
        thirty.drift(30);
        check.due("thirty times are thirty", thirty.told(13), 30);
    }

    /** Draws from THE SEED 0: it becomes 12345, 1406932606, 654583775, 1449466924; each / 65536: 0, 21468, 9988, 22117. */
    private static void driftDraws() {
        SaltLines x = Check.told("h2 0,1;d0 1 5 1;p0 9;p1 9;");
        check.due("PERSON 0 of 2, DOOR 0 of 1, 9988 of 6 is 4: CROSSED", x.drift(1), 1);
        check.due("who made that STEP", x.room(1), 3);
        check.due("on 4 no HOUR", x.told(5), 0);
        check.due("three DRAWS", x.seed(654583775), 654583775);
        SaltLines far = Check.told("h3 0;d1 2 5 0;p0 9;");
        check.due("it makes that STEP, if it can: not by a DOOR of another ROOM", far.drift(1), 0);
        check.due("three DRAWS though it cannot", far.seed(0), 654583775);
        check.due("it is a deed though it cannot", far.told(13), 1);
        SaltLines stopped = Check.told("h2 0;d0 1 9 0;p0 0;");
        check.due("STOPPED: nothing CROSSED", stopped.drift(1), 0);
        check.due("STOPPED is counted", stopped.told(7), 1);
        SaltLines hour = Check.told("h2 0,3;d0 1 5 1;");
        hour.drift(1);
        check.due("on 0 AN HOUR", hour.told(5), 1);
        check.due("on 0 AN HOUR, with its RAIN", hour.door(0, 2), 2);
        SaltLines day = Check.told("h2 0;p0 0;");
        day.hour(23);
        day.drift(1);
        check.due("the HOUR of a DRAW is the 24th", day.told(5), 24);
        check.due("the HOUR of a DRAW is the 24th: one nearer", day.person(0, 1), 1);
        SaltLines most = Check.told("h2 0;");
        most.seed(2147483647);
        most.drift(1);
        check.due("left over by 2 to the 31", most.seed(0), 1043980748);
        check.due("15929 of 6 is 5: no HOUR", most.told(5), 0);
    }

    private static void driftWithoutPersonsOrDoors() {
        for (String text : new String[] {"h2 0;", "h2 0;d0 1 0 0;", "h2 0;p0 9;"}) {
            SaltLines x = Check.told(text);
            check.due("one DRAW each of '" + text + "'", x.drift(4), 0);
            check.due("four DRAWS of '" + text + "'", x.seed(0), 1449466924);
            check.due("0 and 21468 leave 0 by 6 of '" + text + "'", x.told(5), 2);
        }
        SaltLines full = Check.told(Houses.fullHouse());
        full.drift(30);
        check.due("ninety DRAWS at most", full.told(13), 30);
    }

    private static void undoBounds() {
        bounds.of("undo: n 1 .. 30", () -> Houses.hours(30), (x, n) -> x.undo(n)).low(1, 29, SaltLines.OUTSIDE).high(30, 0, SaltLines.OUTSIDE);
        check.due("undo: just so many", Houses.rich().undo(6), 1);
        bounds.refused("undo: NOT: not so many", Houses::rich, x -> x.undo(7), SaltLines.NOT);
        bounds.refused("undo: NOT: not so many by far", Houses::rich, x -> x.undo(30), SaltLines.NOT);
        bounds.refused("undo: OUTSIDE ahead of NOT", Houses::rich, x -> x.undo(31), SaltLines.OUTSIDE);
        bounds.refused("undo: OUTSIDE", Houses::rich, x -> x.undo(0), SaltLines.OUTSIDE);
        bounds.refused("undo: no house: NOT", Houses::noneButNotes, x -> x.undo(1), SaltLines.NOT);
        bounds.refused("undo: no house: OUTSIDE ahead of NOT", Houses::noneButNotes, x -> x.undo(31), SaltLines.OUTSIDE);
        SaltLines x = Houses.rich();
        x.undo(6);
        check.due("none is left", x.told(13), 0);
        check.due("none is left to undo", x.undo(1), SaltLines.NOT);
        x = Houses.rich();
        x.undo(1);
        check.due("five are left", x.undo(6), SaltLines.NOT);
        check.due("five are left: just so many", x.undo(5), 1);
    }

    private static void undoThirtyAtMost() {
        SaltLines x = Check.told("h2 0;");
        for (int i = 1; i <= 29; i++) x.buy(1);
        check.due("29 are kept", x.told(13), 29);
        x.buy(1);
        check.due("30 are kept", x.told(13), 30);
        x.buy(1);
        check.due("30 at most are kept", x.told(13), 30);
        check.due("the 30 latest are undone", x.undo(30), 0);
        check.due("the oldest stays", x.told(6), 1);
        check.due("none is left", x.undo(1), SaltLines.NOT);
        SaltLines round = Check.told("h2 0;");
        for (int i = 0; i < 75; i++) round.hour(1);
        check.due("one by one round the end", round.undo(1), 74);
        check.due("of 75", round.undo(29), 45);
        round.hour(30);
        check.due("filled again", round.undo(30), 45);
    }

    /** Whatever is kept of one deed must leave what is kept of the others, the oldest and the latest too. */
    private static void undoThirtyOfAFullHouse() {
        SaltLines x = Check.told(Houses.fullHouse());
        for (int i = 0; i < 10; i++) x.sweep(i);
        for (int i = 0; i < 10; i++) x.lay(i, i % 2 + 1);
        x.step(1, 0);
        for (int i = 0; i < 6; i++) x.wish(i, 1);
        x.hour(4);
        check.due("thirty of thirty-one are kept", x.told(13), 30);
        x.undo(11);
        for (int d = 0; d < 10; d++) check.due("eleven undone: LINE " + d, x.door(d, 2), d % 2 + 1);
        for (int p = 0; p < 6; p++) check.due("eleven undone: ROOM of " + p, x.person(p, 0), new int[] {0, 0, 7, 7, 4, 4}[p]);
        for (int p = 0; p < 6; p++) check.due("eleven undone: WISH of " + p, x.person(p, 1), new int[] {0, 18, 0, 18, 9, 8}[p]);
        x.undo(10);
        check.due("swept: no spoons", x.told(10), 0);
        x.undo(9);
        for (int d = 0; d < 10; d++) check.due("thirty undone: LINE " + d, x.door(d, 2), d == 0 ? 0 : 9);
        check.due("thirty undone: none is left", x.undo(1), SaltLines.NOT);
        SaltLines latest = Check.told("h2 0;d0 1 7 0;");
        for (int i = 0; i < 31; i++) latest.buy(1);
        latest.undo(30);
        check.due("the oldest that is kept: LINE 0", latest.door(0, 2), 7);
        check.due("the oldest that is kept: STORE", latest.told(6), 1);
    }

    /** Each kind of deed is one, and all of section 2 is as ahead of it. */
    private static void undoEachKind() {
        SaltLines x = Houses.rich();
        int[] spoonsOf1 = {6, 6, 6, 6, 6, 6};
        int[] spoonsOf0 = {3, 5, 5, 5, 5, 3};
        int[] store = {21, 21, 18, 18, 18, 20};
        int[] wish = {5, 5, 5, 9, 9, 9};
        int[] stopped = {1, 1, 1, 1, 0, 0};
        int[] hours = {2, 1, 1, 1, 1, 1};
        for (int i = 0; i < 6; i++) {
            check.due("undone " + i + ": HOURS", x.undo(1), hours[i]);
            check.due("undone " + i + ": LINE 0", x.door(0, 2), spoonsOf0[i]);
            check.due("undone " + i + ": LINE 1", x.door(1, 2), spoonsOf1[i]);
            check.due("undone " + i + ": STORE", x.told(6), store[i]);
            check.due("undone " + i + ": WISH", x.person(1, 1), wish[i]);
            check.due("undone " + i + ": STOPPED", x.told(7), stopped[i]);
            check.due("undone " + i + ": left", x.told(13), 5 - i);
        }
        SaltLines crossed = Check.told("h2 0;d0 1 5 0;p0 9;");
        for (int i = 0; i < 4; i++) crossed.step(0, 0);
        crossed.undo(1);
        check.due("the fourth crossing undone: the LINE", crossed.door(0, 2), 5);
        check.due("the fourth crossing undone: CROSSED", crossed.door(0, 4), 3);
        check.due("the fourth crossing undone: the ROOM", crossed.person(0, 0), 1);
        SaltLines drawn = Check.told("h2 0;");
        drawn.drift(2);
        drawn.undo(1);
        check.due("each time BY DRAWS", drawn.told(5), 1);
        check.due("THE SEED stays", drawn.seed(0), 1406932606);
    }

    private static void undoSinceTextOrImage() {
        SaltLines x = Check.told("h2 5;");
        check.due("since the text", x.undo(1), SaltLines.NOT);
        x.buy(1);
        x.keep(0);
        check.due("since an IMAGE was kept", x.undo(1), SaltLines.NOT);
        x.buy(1);
        x.buy(1);
        check.due("what came since", x.undo(2), 0);
        check.due("what came since: STORE", x.told(6), 6);
        x.buy(1);
        x.goBack(0);
        check.due("since an IMAGE came back", x.undo(1), SaltLines.NOT);
        x.buy(1);
        Check.feedAll(x, "h2 8;");
        x.house();
        check.due("since a text anew", x.undo(1), SaltLines.NOT);
    }
}
