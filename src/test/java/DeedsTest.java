/** Promises 10 to 17: hours, steps, lines laid and swept, salt bought, wishes moved, draws, deeds undone. */
public final class DeedsTest {
    private static final Check check = new Check("DeedsTest");

    public static void main(String[] args) {
        hours();
        calming();
        steps();
        fourthCrossing();
        laying();
        sweeping();
        buying();
        wishes();
        drifting();
        undoing();
        undoKeepsThirty();
        hoursAreFull();
        check.end();
    }

    private static void hours() {
        SaltLines x = Check.told("h3 0,1,0,3;d0 1 6 1;d1 2 5 0;d0 2 1 1;");
        check.due("hour(1)", x.hour(1), 10);
        check.due("gone at 0", x.door(2, 2), 0);
        check.due("in the open", x.door(0, 2), 5);
        check.due("not in the open", x.door(1, 2), 5);
        check.due("hour(1), dry", x.hour(1), 10);
        check.due("hour(2)", x.hour(2), 6);
        check.due("hours", x.told(5), 4);
        check.due("hour(30)", x.hour(30), 5);
        check.due("hour(0)", x.hour(0), SaltLines.OUTSIDE);
        check.due("hour(31)", x.hour(31), SaltLines.OUTSIDE);
        check.due("hours as ahead", x.told(5), 34);
        check.due("hour(0), no house", new SaltLines().hour(0), SaltLines.OUTSIDE);
    }

    private static void calming() {
        SaltLines x = Check.told("h2 0;p0 0;p0 8;p0 9;p0 10;p0 18;");
        x.hour(23);
        check.due("wish at 23", x.person(0, 1), 0);
        x.hour(1);
        int[] want = {1, 9, 9, 9, 17};
        for (int p = 0; p < 5; p++) check.due("wish at 24 of " + p, x.person(p, 1), want[p]);
        x.hour(24);
        check.due("wish at 48", x.person(0, 1), 2);
        check.due("wish at 48", x.person(4, 1), 16);
    }

    private static void steps() {
        SaltLines x = Check.told("h3 0;d0 1 4 0;d2 1 0 0;p0 3;p1 4;p2 0;p1 9;");
        check.due("stopped: 4 and 6", x.step(0, 0), 0);
        check.due("crosses: 4 and 5", x.step(1, 0), 0);
        check.due("no line stops none", x.step(2, 1), 1);
        check.due("no ill crosses", x.step(3, 0), 0);
        check.due("back by the door's other side", x.step(3, 0), 1);
        check.due("stopped", x.told(7), 1);
        check.due("crossed in all", x.told(8), 4);
        check.due("crossed of a door", x.door(0, 4), 3);
        check.due("not of its room", x.step(0, 1), SaltLines.NOT);
        check.due("step(4, 0)", x.step(4, 0), SaltLines.UNKNOWN);
        check.due("step(0, 2)", x.step(0, 2), SaltLines.UNKNOWN);
        check.due("step(-1, -1)", x.step(-1, -1), SaltLines.UNKNOWN);
        check.due("deeds: the stopped one too", x.told(13), 5);
        SaltLines nine = Check.told("h2 0;d0 1 9 0;p0 8;p0 9;");
        check.due("9 and 1 stop", nine.step(0, 0), 0);
        check.due("9 and 0 do not", nine.step(1, 0), 1);
    }

    private static void fourthCrossing() {
        SaltLines x = Check.told("h2 0;d0 1 2 0;p0 9;p0 9;");
        for (int i = 0; i < 3; i++) x.step(0, 0);
        check.due("three times", x.door(0, 2), 2);
        x.step(1, 0);
        check.due("the fourth, by another", x.door(0, 2), 1);
        for (int i = 0; i < 4; i++) x.step(0, 0);
        check.due("the eighth", x.door(0, 2), 0);
        for (int i = 0; i < 4; i++) x.step(0, 0);
        check.due("0 at least", x.door(0, 2), 0);
        SaltLines two = Check.told("h3 0;d0 1 2 0;d1 2 2 0;p0 9;");
        two.step(0, 0);
        two.step(0, 1);
        two.step(0, 1);
        two.step(0, 0);
        check.due("counted door by door", two.told(10), 4);
    }

    private static void laying() {
        SaltLines x = Check.told("h2 10;d0 1 4 0;");
        check.due("lay(0, 5)", x.lay(0, 5), 9);
        check.due("more than 9", x.lay(0, 1), SaltLines.NOT);
        check.due("store", x.told(6), 5);
        x.sweep(0);
        check.due("store has 9", x.lay(0, 9), 9);
        x.sweep(0);
        check.due("store has 4", x.lay(0, 5), SaltLines.NOT);
        check.due("lay all", x.lay(0, 4), 4);
        check.due("lay(0, 0)", x.lay(0, 0), SaltLines.OUTSIDE);
        check.due("lay(0, 10)", x.lay(0, 10), SaltLines.OUTSIDE);
        check.due("lay(1, 0)", x.lay(1, 0), SaltLines.UNKNOWN);
        check.due("lay(-1, 1)", x.lay(-1, 1), SaltLines.UNKNOWN);
        check.due("deeds", x.told(13), 5);
    }

    private static void sweeping() {
        SaltLines x = Check.told("h3 997;d0 1 7 0;d1 2 1 0;");
        check.due("half of 1, cut", x.sweep(1), 997);
        check.due("999 at most", x.sweep(0), 999);
        check.due("swept", x.door(0, 2), 0);
        check.due("it has none", x.sweep(0), SaltLines.NOT);
        check.due("sweep(2)", x.sweep(2), SaltLines.UNKNOWN);
        check.due("half of 7", Check.told("h2 1;d0 1 7 0;").sweep(0), 4);
    }

    private static void buying() {
        SaltLines x = Check.told("h2 10;");
        check.due("buy(1)", x.buy(1), 11);
        check.due("buy(987)", x.buy(987), 998);
        check.due("buy(999)", x.buy(999), 999);
        check.due("a deed though full", x.told(13), 3);
        check.due("buy(0)", x.buy(0), SaltLines.OUTSIDE);
        check.due("buy(1000)", x.buy(1000), SaltLines.OUTSIDE);
        check.due("buy(0), no house", new SaltLines().buy(0), SaltLines.OUTSIDE);
    }

    private static void wishes() {
        SaltLines x = Check.told("h2 0;p0 5;");
        check.due("wish(0, 9)", x.wish(0, 9), 14);
        check.due("9 at most", x.wish(0, 9), 18);
        check.due("wish(0, -9)", x.wish(0, -9), 9);
        check.due("wish(0, -8)", x.wish(0, -8), 1);
        check.due("9 below 0 at least", x.wish(0, -8), 0);
        check.due("wish(0, 0)", x.wish(0, 0), 0);
        check.due("deeds", x.told(13), 6);
        check.due("wish(0, 10)", x.wish(0, 10), SaltLines.OUTSIDE);
        check.due("wish(0, -10)", x.wish(0, -10), SaltLines.OUTSIDE);
        check.due("wish(1, 10)", x.wish(1, 10), SaltLines.UNKNOWN);
    }

    private static void drifting() {
        SaltLines x = Check.told("h2 0;p0 5;");
        // no doors: one draw each time: 0, 21468, 9988, 22117
        check.due("drift(4)", x.drift(4), 0);
        check.due("two hours: 0 and 21468 leave 0 by 6", x.told(5), 2);
        check.due("seed", x.seed(0), 1449466924);
        SaltLines empty = Check.told("h2 0,1;d0 1 9 1;");
        empty.drift(4);
        check.due("no persons: one draw each time too", empty.seed(0), 1449466924);
        check.due("two hours of rain", empty.door(0, 2), 7);
        SaltLines y = Check.told("h2 0,1;d0 1 5 1;p0 9;p1 9;");
        // draws 0 of 2, 21468 of 1, 9988 of 6: person 0 crosses, no hour
        check.due("drift(1)", y.drift(1), 1);
        check.due("who crossed", y.person(0, 0), 1);
        check.due("no hour", y.told(5), 0);
        check.due("each time is one deed", y.told(13), 1);
        y.drift(29);
        check.due("thirty deeds, hours of draws not by themselves", y.told(13), 30);
        int seed = y.seed(9);
        y.seed(seed);
        check.due("undo of draws", y.undo(30), 0);
        check.due("as ahead", y.person(0, 0), 0);
        check.due("the seed stays", y.seed(0), seed);
        check.due("drift(0)", y.drift(0), SaltLines.OUTSIDE);
        check.due("drift(31)", y.drift(31), SaltLines.OUTSIDE);
        check.due("drift(0), no house", new SaltLines().drift(0), SaltLines.OUTSIDE);
    }

    private static void undoing() {
        SaltLines x = Check.told("h2 20,1;d0 1 4 1;p0 5;p0 0;");
        x.step(0, 0);
        x.lay(0, 5);
        x.step(1, 0);
        x.wish(1, 3);
        x.buy(5);
        x.hour(3);
        x.sweep(0);
        check.due("deeds", x.told(13), 9);
        check.due("undo sweep and two hours", x.undo(3), 1);
        check.due("spoons", x.door(0, 2), 8);
        check.due("undo hour, buy", x.undo(2), 0);
        check.due("store", x.told(6), 15);
        check.due("wish", x.person(1, 1), 3);
        check.due("undo wish, stop", x.undo(2), 0);
        check.due("stopped", x.told(7), 0);
        check.due("wish", x.person(1, 1), 0);
        check.due("not so many", x.undo(3), SaltLines.NOT);
        check.due("undo(0)", x.undo(0), SaltLines.OUTSIDE);
        check.due("undo(31)", x.undo(31), SaltLines.OUTSIDE);
        check.due("undo the rest", x.undo(2), 0);
        check.due("place", x.person(0, 0), 0);
        check.due("crossed", x.told(8), 0);
        check.due("spoons", x.door(0, 2), 4);
        check.due("none left", x.undo(1), SaltLines.NOT);
        x.step(1, 0);
        x.lay(0, 9);
        x.wish(0, 99);
        check.due("what is refused is no deed", x.told(13), 1);
    }

    private static void undoKeepsThirty() {
        SaltLines x = Check.told("h2 0;");
        for (int i = 1; i <= 40; i++) x.buy(i);
        check.due("thirty", x.told(13), 30);
        check.due("undo(30)", x.undo(30), 0);
        check.due("store behind ten", x.told(6), 55);
        check.due("none left", x.undo(1), SaltLines.NOT);
        x.hour(30);
        x.hour(5);
        check.due("undo(7)", x.undo(7), 28);
        check.due("left", x.told(13), 23);
    }

    /** Beyond the 512 calls that are promised; there is no shorter way to so many hours. */
    private static void hoursAreFull() {
        SaltLines x = Check.told("h2 0;");
        for (int i = 0; i < 3000; i++) x.hour(30);
        check.due("90000 hours", x.told(5), 90000);
        check.due("hour at 90000", x.hour(1), 0);
        check.due("hour above", x.hour(1), SaltLines.FULL);
        check.due("drift above", x.drift(1), SaltLines.FULL);
        check.due("hour(0) above", x.hour(0), SaltLines.OUTSIDE);
        x.undo(1);
        check.due("drift at 90000", x.drift(1), 0);
    }
}
