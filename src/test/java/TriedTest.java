/** Promises 18 to 32: what is tried from now. */
public final class TriedTest {
    private static final Check check = new Check("TriedTest");
    private static final String RING = "h4 5;d0 1 3 0;d1 2 5 0;d2 3 1 0;d3 0 0 0;p0 0;p2 4;p1 9;";

    public static void main(String[] args) {
        stopping();
        coming();
        ways();
        keepingOut();
        softening();
        partsOfTheHouse();
        worstIll();
        lasting();
        mending();
        holding();
        crossedMost();
        narrowDoors();
        firstToSalt();
        sharing();
        dryDays();
        check.end();
    }

    private static void stopping() {
        SaltLines x = Check.told("h3 0;d0 1 4 0;d1 2 0 0;p0 3;p2 4;p0 18;p0 0;");
        int[] want = {1, 0, 0, 1};
        for (int p = 0; p < 4; p++) {
            check.due("stops(" + p + ", 0)", x.stops(p, 0), want[p]);
            check.due("stops(" + p + ", 1)", x.stops(p, 1), 0);
        }
        check.due("stops(4, 0)", x.stops(4, 0), SaltLines.UNKNOWN);
        check.due("stops(0, 2)", x.stops(0, 2), SaltLines.UNKNOWN);
        check.due("stops(-1, 0)", x.stops(-1, 0), SaltLines.UNKNOWN);
    }

    private static void coming() {
        SaltLines x = Check.told(RING);
        int[] want = {7, 6, 6, 7};
        for (int a = 0; a < 4; a++) check.due("comers(" + a + ")", x.comers(a), want[a]);
        check.due("comers(4)", x.comers(4), SaltLines.UNKNOWN);
        check.due("comers(-1)", x.comers(-1), SaltLines.UNKNOWN);
        check.due("comers, no house", new SaltLines().comers(0), SaltLines.UNKNOWN);
    }

    private static void ways() {
        SaltLines x = Check.told(RING);
        check.due("way(1, 0, 0)", x.way(1, 0, 0), 2);
        check.due("not the stopped door", x.way(1, 0, 1), 2);
        check.due("two ways, the least first door", x.way(2, 3, 1), 0);
        check.due("their length", x.way(2, 3, 0), 2);
        check.due("it is there", x.way(2, 1, 0), 0);
        check.due("no first door", x.way(2, 1, 1), SaltLines.NONE);
        check.due("it does not come", x.way(0, 1, 0), SaltLines.NONE);
        check.due("it does not come", x.way(0, 1, 1), SaltLines.NONE);
        check.due("way(3, 0, 2)", x.way(3, 0, 2), SaltLines.UNKNOWN);
        check.due("way(0, 4, 2)", x.way(0, 4, 2), SaltLines.UNKNOWN);
        check.due("way(0, 0, 2)", x.way(0, 0, 2), SaltLines.OUTSIDE);
        check.due("way(0, 0, -1)", x.way(0, 0, -1), SaltLines.OUTSIDE);
        SaltLines late = Check.told("h4 0;d2 3 0 0;d0 2 0 0;d1 3 0 0;d0 1 0 0;p0 9;");
        check.due("the least of first doors, not of all", late.way(0, 3, 1), 1);
        SaltLines line = Check.told("h8 0;d0 1 0 0;d1 2 0 0;d2 3 0 0;d3 4 0 0;d4 5 0 0;d5 6 0 0;d6 7 0 0;p0 0;");
        check.due("seven doors", line.way(0, 7, 0), 7);
    }

    private static void keepingOut() {
        SaltLines x = Check.told(RING);
        check.due("it does not come", x.keepOut(0, 2, 0), 0);
        check.due("no lines", x.keepOut(0, 2, 1), 0);
        check.due("one spoon", x.keepOut(0, 3, 0), 1);
        check.due("on door 3", x.keepOut(0, 3, 1), 8);
        check.due("it is there", x.keepOut(0, 0, 0), SaltLines.NONE);
        check.due("it is there", x.keepOut(0, 0, 1), SaltLines.NONE);
        check.due("no ill, and comes", x.keepOut(2, 0, 0), SaltLines.NONE);
        check.due("no ill, and comes", x.keepOut(2, 0, 1), SaltLines.NONE);
        check.due("no ill, comes not", Check.told("h2 0;p0 9;").keepOut(0, 1, 0), 0);
        check.due("keepOut(3, 0, 9)", x.keepOut(3, 0, 9), SaltLines.UNKNOWN);
        check.due("keepOut(0, 4, 9)", x.keepOut(0, 4, 9), SaltLines.UNKNOWN);
        check.due("keepOut(0, 0, 2)", x.keepOut(0, 0, 2), SaltLines.OUTSIDE);
        check.due("keepOut(0, 0, -1)", x.keepOut(0, 0, -1), SaltLines.OUTSIDE);
        SaltLines like = Check.told("h4 0;d0 1 5 0;d2 3 5 0;d1 2 5 0;p0 8;");
        check.due("like ones", like.keepOut(0, 3, 0), 4);
        check.due("the least set", like.keepOut(0, 3, 1), 1);
        // the door of the yard alone costs 6, as do two of the three others that part room 3 from it
        SaltLines sets = Check.told("h4 0;d0 1 3 0;d1 2 6 0;d1 3 6 0;d2 3 6 0;p0 8;");
        check.due("two lines or one", sets.keepOut(0, 3, 0), 6);
        check.due("the lesser set", sets.keepOut(0, 3, 1), 1);
        SaltLines other = Check.told("h4 0;d1 2 6 0;d1 3 6 0;d2 3 6 0;d0 1 3 0;p0 8;");
        check.due("two lines are a lesser set than the fourth", other.keepOut(0, 3, 1), 3);
        SaltLines far = Check.told("h4 0;d0 1 2 0;d1 2 4 0;d2 3 8 0;p0 8;");
        check.due("the last of three", far.keepOut(0, 3, 0), 1);
        check.due("the last of three", far.keepOut(0, 3, 1), 4);
        SaltLines most = Check.told("h2 0;d0 1 0 0;p0 8;");
        check.due("nine spoons, store is not looked at", most.keepOut(0, 1, 0), 9);
        check.due("nothing is laid", most.told(10), 0);
    }

    private static void softening() {
        SaltLines x = Check.told("h3 0;d0 1 5 0;p0 0;p0 18;p1 3;p0 5;");
        check.due("by four", x.soften(0, 1), 5);
        check.due("it does", x.soften(1, 1), 0);
        check.due("by two", x.soften(2, 0), 2);
        check.due("ill 4 crosses 5", x.soften(3, 1), 0);
        check.due("it is there", x.soften(0, 0), 0);
        check.due("not even by 9", x.soften(0, 2), SaltLines.NONE);
        check.due("by nine", Check.told("h2 0;d0 1 9 0;p0 0;").soften(0, 1), 9);
        check.due("soften(4, 0)", x.soften(4, 0), SaltLines.UNKNOWN);
        check.due("soften(0, 3)", x.soften(0, 3), SaltLines.UNKNOWN);
        check.due("nothing changes", x.person(0, 1), 0);
    }

    private static void partsOfTheHouse() {
        SaltLines x = Check.told(RING);
        check.due("parts(9)", x.parts(9, SaltLines.NONE), 3);
        check.due("parts(9, 0)", x.parts(9, 0), 9);
        check.due("parts(9, 3)", x.parts(9, 3), 9);
        check.due("parts(9, 2)", x.parts(9, 2), 4);
        check.due("parts(7)", x.parts(7, SaltLines.NONE), 2);
        check.due("parts(7, 1)", x.parts(7, 1), 2);
        check.due("parts(6)", x.parts(6, SaltLines.NONE), 1);
        check.due("parts(0, 1)", x.parts(0, 1), 15);
        check.due("parts(-1, 4)", x.parts(-1, 4), SaltLines.UNKNOWN);
        check.due("parts(10, -2)", x.parts(10, -2), SaltLines.UNKNOWN);
        check.due("parts(10, 0)", x.parts(10, 0), SaltLines.OUTSIDE);
        check.due("parts(-1, NONE)", x.parts(-1, SaltLines.NONE), SaltLines.OUTSIDE);
        SaltLines none = new SaltLines();
        check.due("no house, a room", none.parts(0, 0), SaltLines.UNKNOWN);
        check.due("no house, outside", none.parts(10, SaltLines.NONE), SaltLines.OUTSIDE);
        check.due("no house", none.parts(9, SaltLines.NONE), SaltLines.NOT);
        check.due("no doors", Check.told("h8 0;").parts(0, SaltLines.NONE), 8);
    }

    private static void worstIll() {
        SaltLines x = Check.told("h5 0;d0 1 3 0;d1 2 5 0;d2 3 1 0;d3 0 0 0;");
        check.due("the yard", x.worst(0), SaltLines.NONE);
        check.due("worst(1)", x.worst(1), 7);
        check.due("worst(2)", x.worst(2), 9);
        check.due("no line", x.worst(3), SaltLines.NONE);
        check.due("no door", x.worst(4), 0);
        check.due("worst(5)", x.worst(5), SaltLines.UNKNOWN);
        check.due("worst(-1)", x.worst(-1), SaltLines.UNKNOWN);
        check.due("nine spoons", Check.told("h2 0;d0 1 9 0;").worst(1), 1);
    }

    private static void lasting() {
        SaltLines x = Check.told("h4 0,1,0,2;d0 1 4 1;d1 2 0 1;d2 3 5 0;d3 0 0 0;");
        check.due("1 0 2 1", x.lasts(0), 4);
        check.due("it has none", x.lasts(1), 0);
        check.due("not in the open", x.lasts(2), SaltLines.NONE);
        check.due("not in the open, and none", x.lasts(3), SaltLines.NONE);
        check.due("lasts(4)", x.lasts(4), SaltLines.UNKNOWN);
        x.hour(1);
        check.due("from hour 1: 0 2 1", x.lasts(0), 3);
        check.due("no rain", Check.told("h2 0;d0 1 1 1;").lasts(0), SaltLines.NONE);
        String drops = "h2 0,1,0,0,0,0,0,0,0,0,0,0,0;d0 1 9 1;";
        SaltLines slow = Check.told(drops);
        check.due("the ninth rain is of hour 96", slow.lasts(0), 97);
        slow.hour(1);
        check.due("eight left: of hour 96", slow.lasts(0), 96);
        SaltLines late = Check.told("h2 9,0,0,1,0,0,0,0,0,0,0,0,0;d0 1 9 1;");
        check.due("behind 99", late.lasts(0), 99);
        check.due("holds it", late.holds(0), 0);
        check.due("holds 99", late.holds(1), 99);
        SaltLines later = Check.told("h2 9,0,0,0,1,0,0,0,0,0,0,0,0;d0 1 9 1;");
        check.due("behind 100 is none", later.lasts(0), SaltLines.NONE);
        check.due("holds none then", later.holds(0), SaltLines.NONE);
        check.due("holds none then", later.holds(1), SaltLines.NONE);
    }

    private static void mending() {
        SaltLines x = Check.told("h4 0,3,0,1;d0 1 2 1;d1 2 5 0;d2 3 9 1;d3 0 0 1;");
        check.due("mend(0)", x.mend(0), 0);
        check.due("mend(1)", x.mend(1), 5);
        check.due("mend(2)", x.mend(2), 5);
        check.due("mend(3)", x.mend(3), 7);
        check.due("mend(99)", x.mend(99), 231);
        check.due("mend(-1)", x.mend(-1), SaltLines.OUTSIDE);
        check.due("mend(100)", x.mend(100), SaltLines.OUTSIDE);
        x.hour(2);
        check.due("from hour 2", x.mend(1), 1);
        check.due("no house", new SaltLines().mend(9), 0);
    }

    private static void holding() {
        SaltLines x = Check.told("h4 0,2;d0 1 2 0;d1 2 5 1;d2 3 4 1;d3 0 3 1;d0 2 0 1;");
        check.due("holds(0), like ones", x.holds(0), 2);
        check.due("holds(1)", x.holds(1), 2);
        check.due("holds(-1)", x.holds(-1), SaltLines.OUTSIDE);
        check.due("holds(2)", x.holds(2), SaltLines.OUTSIDE);
        x.hour(2);
        check.due("the next", x.holds(0), 1);
        check.due("the next", x.holds(1), 1);
        x.hour(1);
        check.due("all gone", x.holds(0), SaltLines.NONE);
        check.due("all gone", x.holds(1), SaltLines.NONE);
        SaltLines door0 = Check.told("h3 0,1;d0 1 4 1;d1 2 5 1;");
        check.due("door 0", door0.holds(0), 0);
        check.due("behind 4", door0.holds(1), 4);
        check.due("no house", new SaltLines().holds(0), SaltLines.NONE);
    }

    private static void crossedMost() {
        SaltLines x = Check.told("h3 0;d0 1 0 0;d1 2 0 0;d2 0 0 0;p0 9;");
        check.due("none was", x.mostCrossed(), SaltLines.NONE);
        x.step(0, 2);
        check.due("door 2", x.mostCrossed(), 2);
        x.step(0, 1);
        check.due("of like ones the least", x.mostCrossed(), 1);
        x.step(0, 1);
        x.step(0, 2);
        x.step(0, 2);
        check.due("door 2 again", x.mostCrossed(), 2);
        x.step(0, 2);
        for (int i = 0; i < 4; i++) x.step(0, 0);
        check.due("door 0, as often as door 2", x.mostCrossed(), 0);
        x.undo(4);
        check.due("undone", x.mostCrossed(), 2);
    }

    private static void narrowDoors() {
        check.due("a ring", Check.told(RING).narrow(), 0);
        check.due("a ring with a tail", Check.told("h5 0;d3 4 9 0;d0 1 9 0;d1 2 9 0;d2 0 9 0;d0 3 0 1;").narrow(), 17);
        check.due("parted already", Check.told("h4 0;d0 1 0 0;d2 3 0 0;").narrow(), 3);
        check.due("no doors", Check.told("h4 0;").narrow(), 0);
        check.due("no house", new SaltLines().narrow(), 0);
    }

    private static void firstToSalt() {
        SaltLines x = Check.told("h3 0;d0 1 5 0;d1 2 9 0;p1 4;p1 5;p1 5;p2 3;p0 18;");
        check.due("most ill of those who come", x.first(), 1);
        x.wish(4, -9);
        x.wish(4, -9);
        check.due("who is there comes", x.first(), 4);
        check.due("person 0", Check.told("h2 0;p0 3;p0 3;p0 4;").first(), 0);
        check.due("none comes", Check.told("h2 0;d0 1 9 0;p1 0;").first(), SaltLines.NONE);
        check.due("no ill is least", Check.told("h2 0;d0 1 9 0;p1 0;p1 12;p0 13;").first(), 1);
        check.due("no house", new SaltLines().first(), SaltLines.NONE);
    }

    private static void sharing() {
        SaltLines x = Check.told("h4 0;d0 1 8 0;d1 2 7 0;d2 3 9 0;d3 0 6 0;");
        int[] full = {1, 2, 2, 2, 3, 3, 4, 4};
        int[] left = {0, 0, 0, 0, 0, 0, 0, 1};
        for (int n = 0; n < 8; n++) {
            check.due("share(" + n + ", 0)", x.share(n, 0), full[n]);
            check.due("share(" + n + ", 1)", x.share(n, 1), left[n]);
        }
        check.due("share(999, 1)", x.share(999, 1), 993);
        check.due("share(-1, 0)", x.share(-1, 0), SaltLines.OUTSIDE);
        check.due("share(1000, 0)", x.share(1000, 0), SaltLines.OUTSIDE);
        check.due("share(0, 2)", x.share(0, 2), SaltLines.OUTSIDE);
        check.due("share(0, -1)", x.share(0, -1), SaltLines.OUTSIDE);
        check.due("no house", new SaltLines().share(7, 0), 0);
        check.due("no house", new SaltLines().share(7, 1), 7);
        check.due("nothing is shared", x.told(10), 30);
    }

    private static void dryDays() {
        SaltLines x = new SaltLines();
        check.due("dry(0, 0)", x.dry(0, 0), 1000000000);
        check.due("dry(1, 0)", x.dry(1, 0), 0);
        check.due("dry(60, 100)", x.dry(60, 100), 1000000000);
        check.due("dry(2, 90)", x.dry(2, 90), 810000000);
        check.due("cut each time", x.dry(6, 33), 1291467);
        check.due("cut each time", x.dry(5, 1), 0);
        check.due("dry(60, 99)", x.dry(60, 99), 547156620);
        check.due("dry(-1, 0)", x.dry(-1, 0), SaltLines.OUTSIDE);
        check.due("dry(61, 0)", x.dry(61, 0), SaltLines.OUTSIDE);
        check.due("dry(0, -1)", x.dry(0, -1), SaltLines.OUTSIDE);
        check.due("dry(0, 101)", x.dry(0, 101), SaltLines.OUTSIDE);
    }
}
