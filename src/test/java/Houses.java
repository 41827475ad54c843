/** Objects that the tests of bounds are asked of. */
final class Houses {
    private Houses() {
    }

    static SaltLines none() {
        return new SaltLines();
    }

    /** Something of everything: a fault, notes, a seed, both images, six deeds, and a text that waits. */
    static SaltLines rich() {
        SaltLines x = Check.told("h3 20,1,2;d0 1 4 1;d1 2 6 0;p0 3;p2 9;");
        Check.feedAll(x, "h9");
        x.house();
        x.see(3, true);
        x.see(5, false);
        x.write(0, 4);
        x.write(1, 5);
        x.seed(1234);
        x.hour(1);
        x.keep(0);
        x.seed(99);
        x.step(1, 1);
        x.keep(1);
        x.seed(7);
        x.lay(0, 2);
        x.step(0, 0);
        x.wish(1, -4);
        x.buy(3);
        x.hour(1);
        x.sweep(1);
        Check.feedAll(x, "h4 7,3;d3 2 8 1;p1 4;");
        return x;
    }

    /** No house, but all that can be without one. */
    static SaltLines noneButNotes() {
        SaltLines x = new SaltLines();
        x.see(3, true);
        x.seed(1234);
        x.keep(1);
        x.seed(56);
        Check.feedAll(x, "h4 7,3;d3 2 8 1;p1 4;");
        return x;
    }

    /** The text has 240 letters. */
    static SaltLines fullText() {
        SaltLines x = Check.told("h2 5;d0 1 4 0;p0 3;");
        x.buy(2);
        Check.feedAll(x, "h4 7;" + " ".repeat(230) + "p3 4;");
        return x;
    }

    static SaltLines fullSeen() {
        SaltLines x = rich();
        for (int i = 2; i < 6; i++) x.see(i, i % 2 == 0);
        return x;
    }

    static SaltLines fullBook() {
        SaltLines x = rich();
        for (int i = 2; i < 20; i++) x.write(i % 2, i % 10);
        return x;
    }

    /** So many hours are beyond the 512 calls that are promised; there is no shorter way to them. */
    static SaltLines hours(int hours) {
        SaltLines x = Check.told("h2 5,0,1;d0 1 9 1;p0 9;");
        for (int i = 0; i < hours / 30; i++) x.hour(30);
        if (hours % 30 != 0) x.hour(hours % 30);
        return x;
    }

    /** Eight rooms in a row, ten doors, six persons, twelve rains: as much as a text can tell. */
    static String fullHouse() {
        return "h8 999" + ",1".repeat(12) + ";" + tenDoors() + sixPersons();
    }

    static String tenDoors() {
        return "d0 1 9 1;d1 2 9 1;d2 3 9 1;d3 4 9 1;d4 5 9 1;d5 6 9 1;d6 7 9 1;d0 2 9 1;d0 3 9 1;d0 4 9 1;";
    }

    static String sixPersons() {
        return "p0 0;p0 18;p7 0;p7 18;p4 9;p4 8;";
    }
}
