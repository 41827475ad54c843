/** Promises 33 to 41: what was seen, the book, the seed, images. */
public final class SeenTest {
    private static final Check check = new Check("SeenTest");

    public static void main(String[] args) {
        seeing();
        fitting();
        looking();
        book();
        tearing();
        seeds();
        keeping();
        goingBack();
        imagesWithoutHouse();
        check.end();
    }

    private static void seeing() {
        SaltLines x = new SaltLines();
        check.due("see(-1)", x.see(-1, true), SaltLines.OUTSIDE);
        check.due("see(10)", x.see(10, true), SaltLines.OUTSIDE);
        for (int i = 1; i <= 6; i++) check.due("see " + i, x.see(9, false), i);
        check.due("see 7", x.see(9, false), SaltLines.FULL);
        check.due("see(10) when full", x.see(10, false), SaltLines.OUTSIDE);
        check.due("told(11)", x.told(11), 6);
    }

    private static void fitting() {
        SaltLines x = new SaltLines();
        check.due("nothing seen", x.ills(), 1023);
        x.see(9, true);
        check.due("nine spoons stop all ill", x.ills(), 1022);
        x.see(3, false);
        check.due("three did not", x.ills(), 126);
        x.see(5, true);
        check.due("five did", x.ills(), 96);
        x.see(0, false);
        check.due("no line says nothing", x.ills(), 96);
        x.see(0, true);
        check.due("no line stops none", x.ills(), 0);
        x.tear();
        x.see(8, false);
        check.due("none or one", x.ills(), 3);
        check.due("parted by nine", x.lookAt(), 9);
        x.see(9, false);
        check.due("no ill", x.ills(), 1);
    }

    private static void looking() {
        SaltLines x = new SaltLines();
        check.due("halves", x.lookAt(), 5);
        x.see(9, true);
        check.due("1 .. 9: by 4 as by 5, the least", x.lookAt(), 4);
        x.see(3, false);
        x.see(5, true);
        check.due("5 or 6", x.lookAt(), 4);
        x.see(4, true);
        check.due("one is left", x.ills(), 64);
        check.due("none parts it", x.lookAt(), SaltLines.NONE);
        x.see(4, false);
        check.due("none is left", x.lookAt(), SaltLines.NONE);
    }

    private static void book() {
        SaltLines x = Check.told("h3 9,1;d0 1 4 1;d1 2 0 0;p0 9;");
        check.due("no book", x.judge(), SaltLines.NONE);
        check.due("write(0, 4)", x.write(0, 4), 1);
        check.due("write(1, 0)", x.write(1, 0), 2);
        check.due("right", x.judge(), SaltLines.NONE);
        check.due("write(1, 9)", x.write(1, 9), 3);
        check.due("wrong", x.judge(), 2);
        x.lay(1, 9);
        check.due("the first that is otherwise", x.judge(), 1);
        x.hour(1);
        check.due("by rain", x.judge(), 0);
        x.undo(2);
        check.due("undone", x.judge(), 2);
        check.due("deeds leave the book", x.told(12), 3);
        check.due("write(2, 99)", x.write(2, 99), SaltLines.UNKNOWN);
        check.due("write(-1, 0)", x.write(-1, 0), SaltLines.UNKNOWN);
        check.due("write(0, 10)", x.write(0, 10), SaltLines.OUTSIDE);
        check.due("write(0, -1)", x.write(0, -1), SaltLines.OUTSIDE);
        for (int i = 4; i <= 20; i++) check.due("write " + i, x.write(0, 4), i);
        check.due("write 21", x.write(0, 4), SaltLines.FULL);
        check.due("outside when full", x.write(0, 10), SaltLines.OUTSIDE);
        check.due("told(12)", x.told(12), 20);
        check.due("no house", new SaltLines().write(0, 0), SaltLines.UNKNOWN);
    }

    private static void tearing() {
        SaltLines x = Check.told("h2 0;d0 1 4 1;");
        check.due("nothing", x.tear(), 0);
        x.see(1, true);
        x.see(9, true);
        x.write(0, 3);
        check.due("both", x.tear(), 3);
        check.due("nothing seen", x.told(11), 0);
        check.due("no book", x.told(12), 0);
        check.due("ills", x.ills(), 1023);
        check.due("judge", x.judge(), SaltLines.NONE);
        check.due("nothing", x.tear(), 0);
    }

    private static void seeds() {
        SaltLines x = Check.told("h2 0;");
        check.due("0 at first", x.seed(2147483647), 0);
        check.due("seed(-1)", x.seed(-1), SaltLines.OUTSIDE);
        check.due("it was", x.seed(1), 2147483647);
        x.drift(1);
        check.due("one draw", x.seed(0), 1103527590);
    }

    private static void keeping() {
        SaltLines x = Check.told("h2 9,1;d0 1 4 1;p0 9;");
        check.due("keep(-1)", x.keep(-1), SaltLines.UNKNOWN);
        check.due("keep(2)", x.keep(2), SaltLines.UNKNOWN);
        x.hour(1);
        check.due("keep(0)", x.keep(0), 1);
        check.due("nothing can be undone", x.undo(1), SaltLines.NOT);
        check.due("told(13)", x.told(13), 0);
        x.hour(2);
        check.due("what came since can", x.undo(2), 1);
    }

    private static void goingBack() {
        SaltLines x = Check.told("h2 9,1;d0 1 4 1;p0 9;p0 0;");
        check.due("goBack(-1)", x.goBack(-1), SaltLines.UNKNOWN);
        check.due("goBack(2)", x.goBack(2), SaltLines.UNKNOWN);
        check.due("not kept", x.goBack(1), SaltLines.NOT);
        x.seed(31);
        x.step(0, 0);
        x.keep(1);
        x.see(3, true);
        x.write(0, 4);
        x.seed(5);
        x.step(0, 0);
        x.lay(0, 5);
        x.step(1, 0);
        x.wish(0, -4);
        x.hour(2);
        x.keep(0);
        x.buy(7);
        check.due("goBack(1)", x.goBack(1), 1);
        check.due("nothing can be undone", x.told(13), 0);
        int[] want = {2, 1, 1, 2, 0, 0, 9, 0, 1, 0, 4, 1, 1, 0};
        for (int what = 0; what <= 13; what++) check.due("back told(" + what + ")", x.told(what), want[what]);
        check.due("back place", x.person(0, 0), 1);
        check.due("back wish", x.person(0, 1), 9);
        check.due("back seed", x.seed(8), 31);
        check.due("goBack(0)", x.goBack(0), 1);
        check.due("hours", x.told(5), 2);
        check.due("stopped", x.told(7), 1);
        check.due("seed", x.seed(8), 5);
        x.hour(1);
        check.due("an image stays", x.goBack(0), 1);
        check.due("hours", x.told(5), 2);
    }

    private static void imagesWithoutHouse() {
        SaltLines x = new SaltLines();
        x.seed(4);
        check.due("keep of no house", x.keep(0), 1);
        x.seed(6);
        check.due("back to no house", x.goBack(0), 1);
        check.due("its seed", x.seed(0), 4);
        Check.feedAll(x, "h2 0;");
        x.house();
        check.due("gone with a house", x.goBack(0), SaltLines.NOT);
    }
}
