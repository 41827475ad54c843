/** Promises 1 to 9: the text, its faults, and what is told of the house. */
public final class HouseTest {
    private static final Check check = new Check("HouseTest");

    public static void main(String[] args) {
        newObject();
        feeding();
        faults();
        bounds();
        houseAnew();
        faultLeavesAll();
        emptyText();
        tellings();
        doorsPersonsRooms();
        rains();
        check.end();
    }

    private static void newObject() {
        SaltLines x = new SaltLines();
        for (int what = 0; what <= 13; what++) check.due("new told(" + what + ")", x.told(what), 0);
        check.due("new fault", x.fault(), SaltLines.NONE);
        check.due("new door", x.door(0, 0), SaltLines.UNKNOWN);
        check.due("new person", x.person(0, 0), SaltLines.UNKNOWN);
        check.due("new room", x.room(0), SaltLines.UNKNOWN);
        check.due("new rain", x.rain(0), SaltLines.NOT);
        check.due("new hour", x.hour(1), SaltLines.NOT);
        check.due("new buy", x.buy(1), SaltLines.NOT);
        check.due("new drift", x.drift(1), SaltLines.NOT);
        check.due("new undo", x.undo(1), SaltLines.NOT);
        check.due("new parts", x.parts(0, SaltLines.NONE), SaltLines.NOT);
        check.due("new goBack", x.goBack(0), SaltLines.NOT);
        check.due("new seed", x.seed(5), 0);
    }

    private static void feeding() {
        SaltLines x = new SaltLines();
        check.due("feed(-1)", x.feed(-1), SaltLines.OUTSIDE);
        check.due("feed(256)", x.feed(256), SaltLines.OUTSIDE);
        check.due("feed(0)", x.feed(0), 1);
        check.due("feed(255)", x.feed(255), 2);
        for (int i = 3; i <= 240; i++) check.due("feed " + i, x.feed(' '), i);
        check.due("feed 241", x.feed(' '), SaltLines.FULL);
        check.due("feed outside when full", x.feed(256), SaltLines.OUTSIDE);
        check.due("told(4) full", x.told(4), 240);
        check.due("house of letter 0", x.house(), -11);
        check.due("text is empty behind a fault", x.told(4), 0);
        check.due("240 letters", Check.feedAll(x, "h2 0;" + " ".repeat(230) + "p0 0;"), 240);
        check.due("house of 240 letters", x.house(), 0);
        check.due("its person", x.told(3), 1);
        check.due("text is empty behind a house", x.told(4), 0);
    }

    private static void fault(String text, int number, int place) {
        SaltLines x = new SaltLines();
        Check.feedAll(x, text);
        check.due("house of '" + text + "'", x.house(), -10 - number);
        check.due("fault of '" + text + "'", x.fault(), place);
        check.due("no rooms of '" + text + "'", x.told(0), 0);
    }

    private static void faults() {
        fault("x", 1, 0);
        fault("d0 1 0 0;", 1, 0);
        fault("  p0 0;", 1, 2);
        fault(";", 1, 0);
        fault("5", 1, 0);
        fault("H2 0;", 1, 0);
        fault("\th2 0;", 1, 0);
        fault("h", 1, 1);
        fault("h2 0", 1, 4);
        fault("h2 0  ", 1, 6);
        fault("h2 0;;", 1, 5);
        fault("h2 0;7", 1, 5);
        fault("h2 0 1;", 1, 5);
        fault("h2 h2 0;", 1, 3);
        fault("h2 0,1 2;", 1, 7);
        fault("h2 0,,1;", 1, 5);
        fault("h2 0" + ",0".repeat(13) + ";", 1, 28);
        fault("h2 0" + ",0".repeat(12) + ",x", 1, 28);
        fault("h2 0;d0 1 0;", 1, 11);
        fault("h2 0;d0,1 0 0;", 1, 7);
        fault("h2 0;d", 1, 6);
        fault("h2 0;p0 1 0;", 1, 10);
        fault("h2 0;d0 1 0 0", 1, 13);
        fault("h2-1;", 1, 2);
        fault("h1 0;", 2, 1);
        fault("h9 0;", 2, 1);
        fault("h0002 0;", 2, 1);
        fault("h2 1000;", 2, 3);
        fault("h2 99999999999999999999;", 2, 3);
        fault("h2 0,4;", 2, 5);
        fault("h2 0;d2 1 0 0;", 2, 6);
        fault("h2 0;d0 2 0 0;", 2, 8);
        fault("h2 0;d0 1 10 0;", 2, 10);
        fault("h2 0;d0 1 0 2;", 2, 12);
        fault("h2 0;p2 0;", 2, 6);
        fault("h2 0;p0 19;", 2, 8);
        fault("h2 0;p0 19", 2, 8);
        fault("h9", 2, 1);
        fault("h2 0;d0 0000 0 0;", 2, 8);
        fault("h2 0;h2 0;", 3, 5);
        fault("h2 0; h", 3, 6);
        fault("h8 0;" + tenDoors() + "d7 6 0 0;", 3, 95);
        fault("h8 0;" + tenDoors() + "d", 3, 95);
        fault("h2 0;" + "p0 0;".repeat(6) + "p0 0;", 3, 35);
        fault("h2 0;d0 0 0 0;", 4, 8);
        fault("h2 0;d0 0", 4, 8);
        fault("h3 0;d0 1 0 0;d0 1 0 0;", 4, 17);
        fault("h3 0;d0 1 0 0;d1 0 0 0;", 4, 17);
    }

    private static String tenDoors() {
        StringBuilder text = new StringBuilder();
        for (int i = 0; i < 7; i++) text.append("d0 ").append(i + 1).append(" 0 0;");
        for (int i = 2; i < 5; i++) text.append("d1 ").append(i).append(" 0 0;");
        return text.toString();
    }

    private static void bounds() {
        check.due("two rooms", Check.told("h2 999;").told(0), 2);
        check.due("eight rooms", Check.told("h8 0;").told(0), 8);
        check.due("figures with noughts", Check.told("h002 007,003;").told(6), 7);
        SaltLines x = Check.told("  h 8 000 , 3 ,0;  d 7 0 9 1 ; p 7 18; p0 0;  ");
        check.due("rains with blanks", x.told(1), 2);
        check.due("spoons with blanks", x.door(0, 2), 9);
        check.due("wish 18", x.person(0, 1), 18);
        check.due("wish 0", x.person(1, 1), 0);
        check.due("twelve rains", Check.told("h2 0" + ",1".repeat(12) + ";").told(1), 12);
        check.due("ten doors", Check.told("h8 0;" + tenDoors()).told(2), 10);
        check.due("six persons", Check.told("h2 0;" + "p1 3;".repeat(6)).told(3), 6);
        check.due("persons ahead of doors", Check.told("h2 0;p1 3;d0 1 2 0;p0 4;").told(2), 1);
    }

    private static void houseAnew() {
        SaltLines x = Check.told("h3 5,1;d0 1 4 1;p0 9;");
        x.seed(77);
        x.step(0, 0);
        x.hour(2);
        x.see(3, true);
        x.write(0, 1);
        x.keep(0);
        x.buy(1);
        Check.feedAll(x, "h2 8;d1 0 3 0;d");
        check.due("fault at the end", x.house(), -11);
        Check.feedAll(x, "h2 8;d1 0 3 0;");
        check.due("house anew", x.house(), 1);
        check.due("fault is gone", x.fault(), SaltLines.NONE);
        int[] want = {2, 0, 1, 0, 0, 0, 8, 0, 0, 0, 3, 0, 0, 0};
        for (int what = 0; what <= 13; what++) check.due("anew told(" + what + ")", x.told(what), want[what]);
        check.due("anew image", x.goBack(0), SaltLines.NOT);
        check.due("anew seed", x.seed(1), 77);
        check.due("anew crossed", x.door(0, 4), 0);
    }

    private static void faultLeavesAll() {
        SaltLines x = Check.told("h3 5,1;d0 1 4 1;p0 9;");
        x.see(3, true);
        x.write(0, 4);
        x.keep(1);
        x.step(0, 0);
        x.hour(2);
        Check.feedAll(x, "h8 9,2;d3 4 7 1;p2 2;!");
        check.due("house with a fault", x.house(), -11);
        check.due("its place", x.fault(), 21);
        int[] want = {3, 1, 1, 1, 0, 2, 5, 0, 1, 0, 2, 1, 1, 3};
        for (int what = 0; what <= 13; what++) check.due("kept told(" + what + ")", x.told(what), want[what]);
        check.due("kept deeds", x.undo(3), 0);
        check.due("kept image", x.goBack(1), 1);
    }

    private static void emptyText() {
        SaltLines x = Check.told("h3 5,1;d0 1 4 1;p0 9;");
        x.see(1, true);
        x.hour(1);
        check.due("house of nothing", x.house(), 0);
        check.due("fault of nothing", x.fault(), SaltLines.NONE);
        for (int what = 0; what <= 13; what++) check.due("nothing told(" + what + ")", x.told(what), 0);
        check.due("nothing rain", x.rain(0), SaltLines.NOT);
        x = Check.told("h3 5,1;d0 1 4 1;p0 9;");
        Check.feedAll(x, "   ");
        check.due("house of blanks", x.house(), 0);
        check.due("no rooms", x.told(0), 0);
        check.due("no letters", x.told(4), 0);
    }

    private static void tellings() {
        SaltLines x = Check.told("h3 5,1,2;d0 1 4 1;d1 2 0 0;p0 9;p2 0;");
        x.step(1, 1);
        x.step(0, 0);
        x.wish(1, -9);
        x.lay(1, 5);
        x.feed('h');
        int[] want = {3, 2, 2, 2, 1, 0, 0, 0, 2, 2, 9, 0, 0, 4};
        for (int what = 0; what <= 13; what++) check.due("told(" + what + ")", x.told(what), want[what]);
        x.buy(9);
        x.lay(0, 5);
        x.step(1, 0);
        check.due("stopped is counted", x.told(7), 1);
        check.due("shut in", x.told(9), 2);
        check.due("told(-1)", x.told(-1), SaltLines.OUTSIDE);
        check.due("told(14)", x.told(14), SaltLines.OUTSIDE);
        check.due("shut in behind no door", Check.told("h2 0;p0 0;p1 18;p1 0;").told(9), 6);
    }

    private static void doorsPersonsRooms() {
        SaltLines x = Check.told("h4 5;d3 1 4 1;d1 2 9 0;p1 3;p1 8;p2 9;p3 14;");
        int[] first = {3, 1, 4, 1, 0, 1};
        int[] second = {1, 2, 9, 0, 0, 3};
        for (int what = 0; what <= 5; what++) {
            check.due("door(0, " + what + ")", x.door(0, what), first[what]);
            check.due("door(1, " + what + ")", x.door(1, what), second[what]);
        }
        check.due("stops persons 1 and 2", Check.told("h2 0;d0 1 5 0;p0 9;p0 4;p1 3;p1 5;").door(0, 5), 6);
        check.due("door(2, 0)", x.door(2, 0), SaltLines.UNKNOWN);
        check.due("door(-1, 9)", x.door(-1, 9), SaltLines.UNKNOWN);
        check.due("door(0, 6)", x.door(0, 6), SaltLines.OUTSIDE);
        check.due("door(0, -1)", x.door(0, -1), SaltLines.OUTSIDE);
        int[][] want = {{1, 3, 6, 2}, {1, 8, 1, 10}, {2, 9, 0, 14}, {3, 14, 0, 14}};
        for (int p = 0; p < 4; p++) {
            for (int what = 0; what < 4; what++) check.due("person(" + p + ", " + what + ")", x.person(p, what), want[p][what]);
        }
        check.due("person(4, 0)", x.person(4, 0), SaltLines.UNKNOWN);
        check.due("person(-1, 9)", x.person(-1, 9), SaltLines.UNKNOWN);
        check.due("person(0, 4)", x.person(0, 4), SaltLines.OUTSIDE);
        check.due("person(0, -1)", x.person(0, -1), SaltLines.OUTSIDE);
        int[] rooms = {0, 3, 4, 8};
        for (int a = 0; a < 4; a++) check.due("room(" + a + ")", x.room(a), rooms[a]);
        check.due("room(4)", x.room(4), SaltLines.UNKNOWN);
        check.due("room(-1)", x.room(-1), SaltLines.UNKNOWN);
    }

    private static void rains() {
        SaltLines x = Check.told("h2 0,1,2,3;");
        check.due("rain(0)", x.rain(0), 1);
        check.due("rain(2)", x.rain(2), 3);
        check.due("rain(3)", x.rain(3), 1);
        check.due("rain(99)", x.rain(99), 1);
        x.hour(4);
        check.due("rain(0) at hour 4", x.rain(0), 2);
        check.due("rain(98) at hour 4", x.rain(98), 1);
        check.due("rain(-1)", x.rain(-1), SaltLines.OUTSIDE);
        check.due("rain(100)", x.rain(100), SaltLines.OUTSIDE);
        check.due("rain(100), no house", new SaltLines().rain(100), SaltLines.OUTSIDE);
        check.due("no rain", Check.told("h2 0;").rain(7), 0);
    }
}
