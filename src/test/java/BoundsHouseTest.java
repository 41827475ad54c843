/** Terms and promises 5 to 9, sentence by sentence: what is told of the house, at its bounds. */
public final class BoundsHouseTest {
    private static final Check check = new Check("BoundsHouseTest");
    private static final Bounds bounds = new Bounds(check);

    public static void main(String[] args) {
        constants();
        toldWhat0To13();
        toldOfNoHouse();
        toldOfAFullHouse();
        doorWhat0To5();
        doorsFrom0On();
        personWhat0To3();
        personsFrom0On();
        roomsFrom0On();
        rainBehind0To99();
        rainGoesRound();
        unknownWithoutHouse();
        check.end();
    }

    private static void constants() {
        check.due("NONE is -1", SaltLines.NONE, -1);
        check.due("UNKNOWN", SaltLines.UNKNOWN, -1000000001);
        check.due("OUTSIDE", SaltLines.OUTSIDE, -1000000002);
        check.due("NOT", SaltLines.NOT, -1000000003);
        check.due("FULL", SaltLines.FULL, -1000000004);
    }

    private static void toldWhat0To13() {
        bounds.of("told: 0 .. 13", Houses::rich, (x, n) -> x.told(n)).low(0, 3, SaltLines.OUTSIDE).high(13, 6, SaltLines.OUTSIDE);
        bounds.of("told: 0 .. 13, no house", Houses::none, (x, n) -> x.told(n)).low(0, 0, SaltLines.OUTSIDE).high(13, 0, SaltLines.OUTSIDE);
        int[] want = {3, 2, 2, 2, 21, 2, 24, 1, 1, 0, 3, 2, 2, 6};
        for (int what = 0; what <= 13; what++) check.due("told(" + what + ")", Houses.rich().told(what), want[what]);
    }

    private static void toldOfNoHouse() {
        int[] want = {0, 0, 0, 0, 21, 0, 0, 0, 0, 0, 0, 1, 0, 0};
        for (int what = 0; what <= 13; what++) {
            check.due("no house: told(" + what + ")", Houses.noneButNotes().told(what), want[what]);
        }
    }

    /** The tenth door and the sixth person are counted, and nothing behind them. */
    private static void toldOfAFullHouse() {
        SaltLines x = Check.told(Houses.fullHouse());
        x.step(1, 0);
        x.step(1, 1);
        x.step(1, 2);
        x.step(3, 6);
        int[] want = {8, 12, 10, 6, 0, 0, 999, 0, 4, 36, 90, 0, 0, 4};
        for (int what = 0; what <= 13; what++) check.due("a full house: told(" + what + ")", x.told(what), want[what]);
        for (int d = 0; d < 10; d++) check.due("a full house: CROSSED of " + d, x.door(d, 4), d < 3 || d == 6 ? 1 : 0);
        check.due("a full house: spoons by an HOUR", x.hour(1), 80);
        SaltLines away = Check.told("h8 0;" + Houses.tenDoors() + "p7 0;");
        check.due("ten doors: nothing CROSSED", away.told(8), 0);
        check.due("ten doors: spoons on all", away.told(10), 90);
    }

    private static void doorWhat0To5() {
        bounds.of("door: what 0 .. 5", Houses::rich, (x, n) -> x.door(1, n)).low(0, 1, SaltLines.OUTSIDE).high(5, 0, SaltLines.OUTSIDE);
        int[] want = {0, 1, 3, 1, 0, 0};
        for (int what = 0; what <= 5; what++) check.due("door(0, " + what + ")", Houses.rich().door(0, what), want[what]);
        SaltLines full = Check.told(Houses.fullHouse());
        check.due("a SET of PERSONS: the first and the last", full.door(9, 5), 37);
        bounds.refused("UNKNOWN ahead of OUTSIDE", Houses::rich, x -> x.door(2, 6), SaltLines.UNKNOWN);
        bounds.refused("UNKNOWN ahead of OUTSIDE, below", Houses::rich, x -> x.door(-1, -1), SaltLines.UNKNOWN);
    }

    private static void doorsFrom0On() {
        bounds.of("door: from 0 on", Houses::rich, (x, n) -> x.door(n, 1)).low(0, 1, SaltLines.UNKNOWN).high(1, 2, SaltLines.UNKNOWN);
        bounds.of("door: the tenth", () -> Check.told(Houses.fullHouse()), (x, n) -> x.door(n, 1)).high(9, 4, SaltLines.UNKNOWN);
    }

    private static void personWhat0To3() {
        bounds.of("person: what 0 .. 3", Houses::rich, (x, n) -> x.person(1, n)).low(0, 1, SaltLines.OUTSIDE).high(3, 7, SaltLines.OUTSIDE);
        int[] want = {0, 3, 6, 7};
        for (int what = 0; what <= 3; what++) check.due("person(0, " + what + ")", Houses.rich().person(0, what), want[what]);
        SaltLines full = Check.told(Houses.fullHouse());
        check.due("a SET of ROOMS: all eight", full.person(1, 3), 255);
        check.due("a SET of ROOMS: the last alone", full.person(2, 3), 128);
        bounds.refused("UNKNOWN ahead of OUTSIDE", Houses::rich, x -> x.person(2, 4), SaltLines.UNKNOWN);
        bounds.refused("UNKNOWN ahead of OUTSIDE, below", Houses::rich, x -> x.person(-1, -1), SaltLines.UNKNOWN);
    }

    private static void personsFrom0On() {
        bounds.of("person: from 0 on", Houses::rich, (x, n) -> x.person(n, 0)).low(0, 0, SaltLines.UNKNOWN).high(1, 1, SaltLines.UNKNOWN);
        bounds.of("person: the sixth", () -> Check.told(Houses.fullHouse()), (x, n) -> x.person(n, 0)).high(5, 4, SaltLines.UNKNOWN);
    }

    private static void roomsFrom0On() {
        bounds.of("room: from 0 on", Houses::rich, (x, n) -> x.room(n)).low(0, 1, SaltLines.UNKNOWN).high(2, 0, SaltLines.UNKNOWN);
        bounds.of("room: the eighth", () -> Check.told(Houses.fullHouse()), (x, n) -> x.room(n)).high(7, 12, SaltLines.UNKNOWN);
        check.due("all six in one room", Check.told("h2 0;" + "p1 0;".repeat(6)).room(1), 63);
    }

    private static void rainBehind0To99() {
        bounds.of("rain: n 0 .. 99", Houses::rich, (x, n) -> x.rain(n)).low(0, 1, SaltLines.OUTSIDE).high(99, 2, SaltLines.OUTSIDE);
        bounds.of("rain: OUTSIDE ahead of NOT", Houses::noneButNotes, (x, n) -> x.rain(n))
            .low(0, SaltLines.NOT, SaltLines.OUTSIDE).high(99, SaltLines.NOT, SaltLines.OUTSIDE);
        bounds.refused("rain: NOT: no HOUSE", Houses::noneButNotes, x -> x.rain(0), SaltLines.NOT);
    }

    /** HOUR k has the number of k left over by how many. */
    private static void rainGoesRound() {
        SaltLines x = Check.told("h2 0,3,2,1;");
        int[] want = {3, 2, 1};
        for (int n = 0; n <= 99; n++) check.due("HOUR " + n, x.rain(n), want[n % 3]);
        x.hour(2);
        check.due("the last number", x.rain(0), 1);
        x.hour(1);
        check.due("the first again", x.rain(0), 3);
        check.due("behind it", x.rain(1), 2);
        check.due("one number is of each HOUR", Check.told("h2 0,2;").rain(99), 2);
    }

    private static void unknownWithoutHouse() {
        bounds.refused("no house, no door", Houses::noneButNotes, x -> x.door(0, 0), SaltLines.UNKNOWN);
        bounds.refused("no house, no person", Houses::noneButNotes, x -> x.person(0, 0), SaltLines.UNKNOWN);
        bounds.refused("no house, no room, not even the YARD", Houses::noneButNotes, x -> x.room(0), SaltLines.UNKNOWN);
        SaltLines bare = Check.told("h2 0;");
        check.due("a house without doors", bare.door(0, 0), SaltLines.UNKNOWN);
        check.due("a house without persons", bare.person(0, 0), SaltLines.UNKNOWN);
        check.due("a house without persons: the YARD", bare.room(0), 0);
    }
}
