import java.util.List;

/** Section 1 of the document and promises 1 to 4, sentence by sentence: the bounds of the text and its faults. */
public final class BoundsTextTest {
    private static final Check check = new Check("BoundsTextTest");
    private static final Bounds bounds = new Bounds(check);

    public static void main(String[] args) {
        newObjectHasNoHouse();
        lettersAre0To255();
        lettersAre240AtMost();
        roomsAre2To8();
        storeIs0To999();
        rainsAre12AtMost();
        rainIs0To3();
        noRainsNoRain();
        firstWordIsH();
        hIsOnce();
        doorsAre10AtMost();
        doorRoomsAreRooms();
        doorRoomsAreUnlike();
        noTwoDoorsAlike();
        spoonsAre0To9();
        openIs0Or1();
        personsAre6AtMost();
        personRoomIsARoom();
        wishIs0To18();
        numbersHaveOneToThreeFigures();
        wordsAreOneLetter();
        blanksStandAnywhereButInNumbers();
        numbersSideBySideNeedABlank();
        onlyLetter32IsABlank();
        endIsAtTheLength();
        firstLetterWithAFault();
        ofFaultsAtOneLetterTheLeast();
        everyLetterAtTheStart();
        everyLetterBehindAClause();
        everyLetterBehindTheStore();
        emptyTextIsNoHouse();
        textIsEmptyThen();
        houseClears();
        houseIsOfItsTextAlone();
        faultLeavesAllElse();
        faultIsOfTheLatestHouse();
        fullestText();
        check.end();
    }

    private static SaltLines stands(String sentence, String text, int doors) {
        SaltLines x = new SaltLines();
        Check.feedAll(x, text);
        check.due(sentence + ": house of '" + text + "'", x.house(), doors);
        check.due(sentence + ": fault of '" + text + "'", x.fault(), SaltLines.NONE);
        return x;
    }

    /** The text is fed to an object that has a house: behind the fault all else must be as it was. */
    private static void fault(String sentence, String text, int number, int place) {
        SaltLines x = small();
        Check.feedAll(x, text);
        check.due(sentence + ": house of '" + text + "'", x.house(), -10 - number);
        check.due(sentence + ": fault of '" + text + "'", x.fault(), place);
        SaltLines other = small();
        Check.feedAll(other, "!");
        other.house();
        check.due(sentence + ": text behind '" + text + "'", x.told(4), 0);
        check.isTrue(sentence + ": all as ahead of '" + text + "'", traceBehindFault(x).equals(traceBehindFault(other)));
    }

    private static SaltLines small() {
        SaltLines x = Check.told("h3 5,1;d0 1 4 1;p0 3;");
        x.see(3, true);
        x.write(0, 3);
        x.seed(5);
        x.keep(0);
        x.hour(1);
        return x;
    }

    /** The place of the fault is what may differ. */
    private static List<Integer> traceBehindFault(SaltLines x) {
        List<Integer> all = Bounds.trace(x);
        return all.subList(1, all.size());
    }

    private static void newObjectHasNoHouse() {
        for (int what = 0; what <= 13; what++) check.due("a new object: told(" + what + ")", new SaltLines().told(what), 0);
        check.due("a new object: fault", new SaltLines().fault(), SaltLines.NONE);
        check.due("a new object: no room 0", new SaltLines().room(0), SaltLines.UNKNOWN);
        check.due("a new object: no door 0", new SaltLines().door(0, 0), SaltLines.UNKNOWN);
        check.due("a new object: no person 0", new SaltLines().person(0, 0), SaltLines.UNKNOWN);
        check.due("a new object: rain", new SaltLines().rain(0), SaltLines.NOT);
        check.due("a new object: no image 0", new SaltLines().goBack(0), SaltLines.NOT);
        check.due("a new object: no image 1", new SaltLines().goBack(1), SaltLines.NOT);
        check.due("a new object: THE SEED 0", new SaltLines().seed(1), 0);
    }

    private static void lettersAre0To255() {
        bounds.of("a letter (0 .. 255)", Houses::rich, (x, n) -> x.feed(n))
            .low(0, 22, SaltLines.OUTSIDE).high(255, 22, SaltLines.OUTSIDE);
        bounds.of("a letter (0 .. 255), no house", Houses::none, (x, n) -> x.feed(n))
            .low(0, 1, SaltLines.OUTSIDE).high(255, 1, SaltLines.OUTSIDE);
    }

    private static void lettersAre240AtMost() {
        SaltLines x = new SaltLines();
        for (int i = 1; i <= 239; i++) x.feed(' ');
        check.due("240 letters at most: the 240th", x.feed(' '), 240);
        check.due("240 letters at most: told(4)", x.told(4), 240);
        bounds.refused("240 letters at most: the 241st", Houses::fullText, y -> y.feed(';'), SaltLines.FULL);
        bounds.refused("240 letters at most: the least letter", Houses::fullText, y -> y.feed(0), SaltLines.FULL);
        bounds.refused("240 letters at most: the greatest letter", Houses::fullText, y -> y.feed(255), SaltLines.FULL);
        bounds.refused("OUTSIDE ahead of FULL", Houses::fullText, y -> y.feed(256), SaltLines.OUTSIDE);
        bounds.refused("OUTSIDE ahead of FULL, below", Houses::fullText, y -> y.feed(-1), SaltLines.OUTSIDE);
        SaltLines last = stands("all 240 letters are read", "h4 7;" + " ".repeat(230) + "p3 4;", 0);
        check.due("all 240 letters are read: the person at their end", last.person(0, 0), 3);
        fault("the end of 240 letters", "h4 7;" + " ".repeat(231) + "p3 4", 1, 240);
        fault("the last of 240 letters", "h4 7;" + " ".repeat(230) + "p3 4!", 1, 239);
        SaltLines again = Houses.fullText();
        again.house();
        check.due("a full text is empty behind house()", again.feed('h'), 1);
    }

    private static void roomsAre2To8() {
        check.due("N 2 .. 8: 2", stands("N 2 .. 8", "h2 0;", 0).told(0), 2);
        check.due("N 2 .. 8: 8", stands("N 2 .. 8", "h8 0;", 0).told(0), 8);
        fault("N 2 .. 8", "h1 0;", 2, 1);
        fault("N 2 .. 8", "h0 0;", 2, 1);
        fault("N 2 .. 8", "h9 0;", 2, 1);
        fault("N 2 .. 8", "h10 0;", 2, 1);
        fault("N 2 .. 8", "h999 0;", 2, 1);
        SaltLines two = stands("ROOMS 0 .. N less 1", "h2 0;p0 9;p1 9;", 0);
        check.due("ROOM 0", two.room(0), 1);
        check.due("ROOM N less 1", two.room(1), 2);
        check.due("ROOM N", two.room(2), SaltLines.UNKNOWN);
    }

    private static void storeIs0To999() {
        check.due("T 0 .. 999: 0", stands("T 0 .. 999", "h2 0;", 0).told(6), 0);
        check.due("T 0 .. 999: 999", stands("T 0 .. 999", "h2 999;", 0).told(6), 999);
        fault("T 0 .. 999", "h2 1000;", 2, 3);
        fault("T 0 .. 999", "h2 -1;", 1, 3);
    }

    private static void rainsAre12AtMost() {
        SaltLines twelve = stands("at most 12 numbers", "h2 0" + ",0".repeat(11) + ",3;", 0);
        check.due("at most 12 numbers: how many", twelve.told(1), 12);
        check.due("at most 12 numbers: the eleventh", twelve.rain(10), 0);
        check.due("at most 12 numbers: the twelfth", twelve.rain(11), 3);
        check.due("at most 12 numbers: the first again", twelve.rain(12), 0);
        fault("a 13th R: at its ','", "h2 0" + ",0".repeat(13) + ";", 1, 28);
        fault("a 13th R: at its ',', though it is out of its bounds", "h2 0" + ",0".repeat(12) + ",9;", 1, 28);
        fault("a 13th R: at its ',', blanks ahead of it", "h2 0" + ",0".repeat(12) + "  ,0;", 1, 30);
        fault("a 13th R: at its ',', the end behind it", "h2 0" + ",0".repeat(12) + ",", 1, 28);
        fault("a 12th R is no 13th", "h2 0" + ",0".repeat(11) + ",", 1, 27);
    }

    private static void rainIs0To3() {
        SaltLines x = stands("R 0 .. 3", "h2 0,0,3;", 0);
        check.due("R 0 .. 3: 0", x.rain(0), 0);
        check.due("R 0 .. 3: 3", x.rain(1), 3);
        fault("R 0 .. 3", "h2 0,4;", 2, 5);
        fault("R 0 .. 3, the twelfth", "h2 0" + ",0".repeat(11) + ",4;", 2, 27);
        fault("R is missing", "h2 0,;", 1, 5);
    }

    private static void noRainsNoRain() {
        SaltLines x = stands("none: no RAIN", "h2 0;d0 1 1 1;", 1);
        check.due("none: no numbers of RAIN", x.told(1), 0);
        check.due("none: rain(0)", x.rain(0), 0);
        check.due("none: rain(99)", x.rain(99), 0);
        check.due("none: hour(30)", x.hour(30), 1);
        SaltLines behind = Check.told("h2 0,3;");
        Check.feedAll(behind, "h2 0;");
        behind.house();
        check.due("none: not that of the house ahead", behind.rain(0), 0);
    }

    private static void firstWordIsH() {
        fault("another word first than 'h'", "d0 1 0 0;", 1, 0);
        fault("another word first than 'h'", "p0 0;", 1, 0);
        fault("another word first than 'h'", ";h2 0;", 1, 0);
        fault("another word first than 'h'", "2 0;", 1, 0);
        fault("another word first than 'h', behind blanks", "   d0 1 0 0;", 1, 3);
    }

    private static void hIsOnce() {
        fault("'h' again", "h2 0;h2 0;", 3, 5);
        fault("'h' again, the end behind it", "h2 0;h", 3, 5);
        fault("'h' again, behind blanks", "h2 0;  h2 0;", 3, 7);
        fault("'h' again, behind a door", "h2 0;d0 1 0 0;h", 3, 14);
        fault("'h' again, behind a person", "h2 0;p0 0;h", 3, 10);
    }

    private static void doorsAre10AtMost() {
        SaltLines ten = stands("10 DOORS at most", "h8 0;" + Houses.tenDoors(), 10);
        check.due("10 DOORS at most: told(2)", ten.told(2), 10);
        check.due("10 DOORS at most: the tenth", ten.door(9, 1), 4);
        check.due("10 DOORS at most: no eleventh", ten.door(10, 1), SaltLines.UNKNOWN);
        fault("an 11th 'd' (at it)", "h8 0;" + Houses.tenDoors() + "d0 5 0 0;", 3, 95);
        fault("an 11th 'd' (at it), though it is told", "h8 0;" + Houses.tenDoors() + "d0 1 0 0;", 3, 95);
        fault("an 11th 'd' (at it), though no room", "h8 0;" + Houses.tenDoors() + "d9 9 0 0;", 3, 95);
        fault("an 11th 'd' (at it), the end behind it", "h8 0;" + Houses.tenDoors() + " d", 3, 96);
        stands("a person behind ten doors", "h8 0;" + Houses.tenDoors() + "p0 0;", 10);
        check.due("no doors", stands("no doors", "h8 0;", 0).told(2), 0);
    }

    private static void doorRoomsAreRooms() {
        stands("ROOMS A and B: the first and the last", "h3 0;d0 2 0 0;d2 1 0 0;", 2);
        stands("ROOMS A and B: the eighth", "h8 0;d7 0 0 0;", 1);
        fault("an A that there is not (at its first)", "h3 0;d3 0 0 0;", 2, 6);
        fault("a B that there is not (at its first)", "h3 0;d0 3 0 0;", 2, 8);
        fault("an A that there is not, of three figures", "h3 0;d003 0 0 0;", 2, 6);
        fault("a B that there is not, of three figures", "h3 0;d0 003 0 0;", 2, 8);
        fault("an A that there is not, though B is none", "h3 0;d8 9 0 0;", 2, 6);
        fault("an A and a like B that there are not", "h3 0;d3 3 0 0;", 2, 6);
        fault("a ninth room", "h8 0;d8 0 0 0;", 2, 6);
    }

    private static void doorRoomsAreUnlike() {
        fault("a B like A (at the B)", "h2 0;d0 0 0 0;", 4, 8);
        fault("a B like A, the last room", "h2 0;d1 1 0 0;", 4, 8);
        fault("a B like A, by other figures", "h2 0;d1   001 0 0;", 4, 10);
        fault("a B like A, the end behind it", "h2 0;d1 1", 4, 8);
    }

    private static void noTwoDoorsAlike() {
        fault("a DOOR that was told (at the B)", "h3 0;d0 1 0 0;d0 1 0 0;", 4, 17);
        fault("a DOOR that was told, the other way", "h3 0;d0 1 0 0;d1 0 0 0;", 4, 17);
        fault("a DOOR that was told, not the latest", "h3 0;d0 1 0 0;d1 2 0 0;d0 1 0 0;", 4, 26);
        fault("a DOOR that was told, the end behind it", "h3 0;d1 2 0 0;d2 1", 4, 17);
        stands("doors that share a room are unlike", "h3 0;d0 1 0 0;d0 2 0 0;d2 1 0 0;", 3);
        SaltLines behind = Check.told("h3 0;d0 1 0 0;");
        Check.feedAll(behind, "h3 0;d0 1 0 0;");
        check.due("a DOOR of the house ahead was not told", behind.house(), 1);
    }

    private static void spoonsAre0To9() {
        check.due("K 0 .. 9: 0", stands("K 0 .. 9", "h2 0;d0 1 0 0;", 1).door(0, 2), 0);
        check.due("K 0 .. 9: 9", stands("K 0 .. 9", "h2 0;d0 1 9 0;", 1).door(0, 2), 9);
        fault("K 0 .. 9", "h2 0;d0 1 10 0;", 2, 10);
        fault("K 0 .. 9", "h2 0;d0 1 999 0;", 2, 10);
    }

    private static void openIs0Or1() {
        check.due("O 1 in the open, 0 not: 0", stands("O 0", "h2 0;d0 1 0 0;", 1).door(0, 3), 0);
        check.due("O 1 in the open, 0 not: 1", stands("O 1", "h2 0;d0 1 0 1;", 1).door(0, 3), 1);
        fault("O 1 in the open, 0 not", "h2 0;d0 1 0 2;", 2, 12);
        fault("O 1 in the open, 0 not", "h2 0;d0 1 0 10;", 2, 12);
        fault("O is missing", "h2 0;d0 1 0;", 1, 11);
        fault("a number behind O", "h2 0;d0 1 0 0 0;", 1, 14);
    }

    private static void personsAre6AtMost() {
        SaltLines six = stands("6 PERSONS at most", "h8 0;" + Houses.sixPersons(), 0);
        check.due("6 PERSONS at most: told(3)", six.told(3), 6);
        check.due("6 PERSONS at most: the sixth", six.person(5, 1), 8);
        check.due("6 PERSONS at most: no seventh", six.person(6, 1), SaltLines.UNKNOWN);
        fault("a seventh 'p' (at it)", "h2 0;" + "p0 0;".repeat(7), 3, 35);
        fault("a seventh 'p' (at it), though no room", "h2 0;" + "p0 0;".repeat(6) + "p9 99;", 3, 35);
        fault("a seventh 'p' (at it), the end behind it", "h2 0;" + "p0 0;".repeat(6) + "  p", 3, 37);
        stands("a door behind six persons", "h8 0;" + Houses.sixPersons() + "d0 1 0 0;", 1);
    }

    private static void personRoomIsARoom() {
        check.due("in ROOM 0", stands("in ROOM A", "h3 0;p0 0;", 0).person(0, 0), 0);
        check.due("in the last ROOM", stands("in ROOM A", "h3 0;p2 0;", 0).person(0, 0), 2);
        fault("a ROOM that there is not (at its first)", "h3 0;p3 0;", 2, 6);
        fault("a ROOM that there is not, of three figures", "h3 0;p003 0;", 2, 6);
        fault("a ninth room", "h8 0;p8 0;", 2, 6);
    }

    private static void wishIs0To18() {
        SaltLines x = stands("W 0 .. 18", "h2 0;p0 0;p0 18;p0 8;p0 9;", 0);
        check.due("WISH is W less 9: 0", x.person(0, 1), 0);
        check.due("WISH is W less 9: ill of 0", x.person(0, 2), 9);
        check.due("WISH is W less 9: 18", x.person(1, 1), 18);
        check.due("WISH is W less 9: ill of 18", x.person(1, 2), 0);
        check.due("WISH is W less 9: ill of 8", x.person(2, 2), 1);
        check.due("WISH is W less 9: ill of 9", x.person(3, 2), 0);
        fault("W 0 .. 18", "h2 0;p0 19;", 2, 8);
        fault("W 0 .. 18", "h2 0;p0 999;", 2, 8);
        fault("W is missing", "h2 0;p0;", 1, 7);
        fault("a number behind W", "h2 0;p0 0 0;", 1, 10);
    }

    private static void numbersHaveOneToThreeFigures() {
        SaltLines x = stands("one to three figures", "h002 07,003;d000 01 009 001;p001 018;", 1);
        int[] want = {2, 1, 1, 1, 0, 0, 7};
        for (int what = 0; what < want.length; what++) check.due("three figures: told(" + what + ")", x.told(what), want[what]);
        check.due("three figures: K", x.door(0, 2), 9);
        check.due("three figures: W", x.person(0, 1), 18);
        fault("four figures or more: N", "h0002 0;", 2, 1);
        fault("four figures or more: T", "h2 0000;", 2, 3);
        fault("four figures or more: R", "h2 0,0000;", 2, 5);
        fault("four figures or more: A", "h2 0;d0000 1 0 0;", 2, 6);
        fault("four figures or more: B", "h2 0;d0 0001 0 0;", 2, 8);
        fault("four figures or more: K", "h2 0;d0 1 0000 0;", 2, 10);
        fault("four figures or more: O", "h2 0;d0 1 0 0000;", 2, 12);
        fault("four figures or more: A of 'p'", "h2 0;p0000 0;", 2, 6);
        fault("four figures or more: W", "h2 0;p0 0000;", 2, 8);
        fault("four figures at the end", "h2 1000", 2, 3);
        fault("as many figures as the text has", "h2 " + "1".repeat(237), 2, 3);
        fault("no figure: N", "h;", 1, 1);
        fault("no figure: T", "h2;", 1, 2);
        fault("no figure: A", "h2 0;d;", 1, 6);
        fault("no figure: B", "h2 0;d0;", 1, 7);
        fault("no figure: K", "h2 0;d0 1;", 1, 9);
        fault("no figure: A of 'p'", "h2 0;p;", 1, 6);
    }

    private static void wordsAreOneLetter() {
        fault("a word is one letter", "hh2 0;", 1, 1);
        fault("a word is one letter", "h2 0;dd0 1 0 0;", 1, 6);
        fault("a word is one letter", "h2 0;pp0 0;", 1, 6);
        fault("a word is one letter", "h2 0;;", 1, 5);
        fault("a word is one letter", "h2 0,,0;", 1, 5);
        fault("a word of another letter", "H2 0;", 1, 0);
        fault("a word of another letter", "h2 0;D0 1 0 0;", 1, 5);
        fault("a word of another letter", "h2 0;P0 0;", 1, 5);
    }

    private static void blanksStandAnywhereButInNumbers() {
        SaltLines x = stands("blanks may stand anywhere", "  h  3  20  ,  1  ,  2  ;  d  0  1  4  1  ;  p  2  10  ;  ", 1);
        check.due("blanks may stand anywhere: numbers of RAIN", x.told(1), 2);
        check.due("blanks may stand anywhere: STORE", x.told(6), 20);
        check.due("blanks may stand anywhere: W", x.person(0, 1), 10);
        stands("or nowhere else", "h3 20,1,2;d0 1 4 1;p2 10;", 1);
        fault("but within NUMBERS", "h2 1 0;", 1, 5);
        fault("but within NUMBERS", "h2 0,1 2;", 1, 7);
        fault("but within NUMBERS", "h2 0;p0 1 8;", 1, 10);
    }

    private static void numbersSideBySideNeedABlank() {
        fault("two NUMBERS side by side need one", "h20;", 2, 1);
        fault("two NUMBERS side by side need one", "h2 0;d01 0 0;", 1, 12);
        fault("two NUMBERS side by side need one", "h2 0;p00;", 1, 8);
        fault("another letter is no blank", "h2,0;", 1, 2);
        stands("one is enough", "h2 0;p0 0;", 0);
    }

    private static void onlyLetter32IsABlank() {
        fault("blanks (32)", "\th2 0;", 1, 0);
        fault("blanks (32)", "h\n2 0;", 1, 1);
        fault("blanks (32)", "h2\r0;", 1, 2);
        fault("blanks (32)", "h2 0;\0", 1, 5);
        fault("blanks (32)", "h2 0;" + (char) 31, 1, 5);
        fault("blanks (32)", "h2 0;" + (char) 33, 1, 5);
        fault("blanks (32)", "h2 0;" + (char) 160, 1, 5);
    }

    /** Each beginning of a text stands if it ends with a clause, and is at fault at its end if not. */
    private static void endIsAtTheLength() {
        String text = " h3 12 , 1,2 ; d0 1 4 1; p2 10 ; d1 2 0 0;";
        int doors = 0;
        boolean whole = false;
        for (int length = 2; length <= text.length(); length++) {
            char last = text.charAt(length - 1);
            if (last == 'd') doors++;
            if (last != ' ') whole = last == ';';
            String start = text.substring(0, length);
            if (whole) {
                stands("the end of a clause", start, doors);
            } else {
                fault("the end at the text's length", start, 1, length);
            }
        }
    }

    private static void firstLetterWithAFault() {
        fault("the first letter: 2 ahead of 1", "h9 0!", 2, 1);
        fault("the first letter: 1 ahead of 2", "h!9 0;", 1, 1);
        fault("the first letter: 3 ahead of 2", "h2 0;h9 0;", 3, 5);
        fault("the first letter: 2 ahead of 3", "h2 9999;h2 0;", 2, 3);
        fault("the first letter: 4 ahead of 1", "h2 0;d0 0!", 4, 8);
        fault("the first letter: 4 ahead of 2", "h2 0;d0 0 10 0;", 4, 8);
        fault("the first letter: 1 ahead of 4", "h2 0;d0, 0 0 0;", 1, 7);
        fault("the first letter: 4 ahead of 3", "h2 0;d0 0 0 0;h", 4, 8);
        fault("the first letter: 2 ahead of 2", "h9 9999;", 2, 1);
    }

    private static void ofFaultsAtOneLetterTheLeast() {
        fault("of these the least: 1 of 1 and 3", "h2 h", 1, 3);
        fault("of these the least: 1 of 1 and 3", "h2 0;d0 h", 1, 8);
        fault("of these the least: 1 of 1 and 3", "h2 0;" + "p0 0;".repeat(5) + "p0 p", 1, 33);
        fault("of these the least: 2 of 2 and 4", "h2 0;d0 0000 0 0;", 2, 8);
        fault("of these the least: 2 of 2 and 4, told", "h2 0;d0 1 0 0;d0 0001 0 0;", 2, 17);
    }

    private static void everyLetterAtTheStart() {
        for (char c = 0; c <= 255; c++) {
            if (c == ' ') continue;
            fault("at the start " + (int) c, String.valueOf(c), 1, c == 'h' ? 1 : 0);
        }
    }

    private static void everyLetterBehindAClause() {
        for (char c = 0; c <= 255; c++) {
            String text = "h2 0;" + c;
            if (c == ' ') {
                stands("behind a clause " + (int) c, text, 0);
            } else if (c == 'h') {
                fault("behind a clause " + (int) c, text, 3, 5);
            } else {
                fault("behind a clause " + (int) c, text, 1, c == 'd' || c == 'p' ? 6 : 5);
            }
        }
    }

    private static void everyLetterBehindTheStore() {
        for (char c = 0; c <= 255; c++) {
            String text = "h2 0" + c;
            boolean goesOn = c == ' ' || c == ',' || c >= '0' && c <= '9';
            if (c == ';') {
                stands("behind T " + (int) c, text, 0);
            } else {
                fault("behind T " + (int) c, text, 1, goesOn ? 5 : 4);
            }
        }
    }

    private static void emptyTextIsNoHouse() {
        for (int blanks : new int[] {0, 1, 240}) {
            SaltLines x = small();
            Check.feedAll(x, " ".repeat(blanks));
            check.due(blanks + " blanks: no HOUSE", x.house(), 0);
            check.due(blanks + " blanks: no fault", x.fault(), SaltLines.NONE);
            for (int what = 0; what <= 13; what++) check.due(blanks + " blanks: told(" + what + ")", x.told(what), 0);
            check.due(blanks + " blanks: no room", x.room(0), SaltLines.UNKNOWN);
            check.due(blanks + " blanks: no door", x.door(0, 0), SaltLines.UNKNOWN);
            check.due(blanks + " blanks: no person", x.person(0, 0), SaltLines.UNKNOWN);
            check.due(blanks + " blanks: hour", x.hour(1), SaltLines.NOT);
            check.due(blanks + " blanks: images are gone", x.goBack(0), SaltLines.NOT);
            check.due(blanks + " blanks: THE SEED stays", x.seed(0), 5);
        }
    }

    private static void textIsEmptyThen() {
        SaltLines x = new SaltLines();
        Check.feedAll(x, "h2 0;p0 0;");
        x.house();
        check.due("it is empty then", x.told(4), 0);
        check.due("it is empty then: the next letter is the first", x.feed('h'), 1);
        check.due("h alone", x.house(), -11);
        check.due("it is empty with a FAULT, too", x.told(4), 0);
        check.due("it is empty with a FAULT, too: the next letter", x.feed('h'), 1);
        Check.feedAll(x, "2 7;");
        check.due("nothing of the text ahead is left", x.house(), 0);
        check.due("nothing of the text ahead is left", x.told(6), 7);
    }

    private static void houseClears() {
        SaltLines x = Houses.rich();
        check.due("the text becomes the house", x.house(), 1);
        int[] want = {4, 1, 1, 1, 0, 0, 7, 0, 0, 1, 8, 0, 0, 0};
        for (int what = 0; what < want.length; what++) check.due("the house anew: told(" + what + ")", x.told(what), want[what]);
        check.due("the house anew: the door is not crossed", x.door(0, 4), 0);
        check.due("the house anew: nothing SEEN", x.ills(), 1023);
        check.due("the house anew: no BOOK", x.judge(), SaltLines.NONE);
        check.due("the house anew: IMAGE 0 is gone", x.goBack(0), SaltLines.NOT);
        check.due("the house anew: IMAGE 1 is gone", x.goBack(1), SaltLines.NOT);
        check.due("the house anew: nothing to undo", x.undo(1), SaltLines.NOT);
        check.due("the house anew: THE SEED stays", x.seed(0), 7);
    }

    /** A smaller house behind a full one, and behind a fault in a full text, answers as on a new object. */
    private static void houseIsOfItsTextAlone() {
        String text = "h5 3;d3 4 2 0;d0 2 5 1;p2 1;";
        SaltLines fresh = Check.told(text);
        SaltLines behind = Check.told(Houses.fullHouse());
        Check.feedAll(behind, text);
        check.due("a smaller house behind a full one", behind.house(), 2);
        SaltLines spoilt = new SaltLines();
        Check.feedAll(spoilt, Houses.fullHouse() + "!");
        spoilt.house();
        Check.feedAll(spoilt, text);
        check.due("a smaller house behind a fault", spoilt.house(), 2);
        for (SaltLines x : new SaltLines[] {behind, spoilt}) sameAnswers(x, fresh);
    }

    private static void sameAnswers(SaltLines x, SaltLines fresh) {
        check.due("of its text alone: narrow", x.narrow(), fresh.narrow());
        check.due("of its text alone: narrow is both doors", x.narrow(), 3);
        check.due("of its text alone: holds", x.holds(0), fresh.holds(0));
        check.due("of its text alone: mend", x.mend(99), fresh.mend(99));
        check.due("of its text alone: first", x.first(), fresh.first());
        check.due("of its text alone: mostCrossed", x.mostCrossed(), fresh.mostCrossed());
        check.due("of its text alone: share", x.share(9, 1), fresh.share(9, 1));
        for (int what = 0; what <= 13; what++) check.due("of its text alone: told(" + what + ")", x.told(what), fresh.told(what));
        for (int ill = 0; ill <= 9; ill++) check.due("of its text alone: parts", x.parts(ill, -1), fresh.parts(ill, -1));
        for (int a = 0; a < 5; a++) check.due("of its text alone: worst", x.worst(a), fresh.worst(a));
        check.due("of its text alone: keepOut", x.keepOut(0, 0, 1), fresh.keepOut(0, 0, 1));
    }

    private static void faultLeavesAllElse() {
        SaltLines x = Houses.rich();
        SaltLines other = Houses.rich();
        check.due("a fault", x.feed('!'), 22);
        check.due("-10 less the number of its FAULT", x.house(), -11);
        check.due("its place", x.fault(), 21);
        other.feed('h');
        check.due("-10 less the number of its FAULT", other.house(), -13);
        check.due("its place", other.fault(), 21);
        check.due("all else is as it was: deeds", x.told(13), 6);
        check.isTrue("all else is as it was", Bounds.trace(x).equals(Bounds.trace(other)));
        int[] numbers = {1, 2, 3, 4};
        String[] texts = {"!", "h1", "h2 0;h", "h2 0;d0 0"};
        for (int i = 0; i < 4; i++) {
            Check.feedAll(x, texts[i]);
            check.due("-10 less the number", x.house(), -10 - numbers[i]);
        }
    }

    private static void faultIsOfTheLatestHouse() {
        SaltLines x = new SaltLines();
        check.due("the latest house(): none was", x.fault(), SaltLines.NONE);
        x.feed('!');
        check.due("the latest house(): not the text that waits", x.fault(), SaltLines.NONE);
        x.house();
        check.due("from 0 on", x.fault(), 0);
        Check.feedAll(x, "h2 0;");
        check.due("it stays until the next", x.fault(), 0);
        x.house();
        check.due("no fault", x.fault(), SaltLines.NONE);
        Check.feedAll(x, "h2 0");
        x.house();
        check.due("at the end", x.fault(), 4);
        x.house();
        check.due("an empty text has none", x.fault(), SaltLines.NONE);
    }

    private static void fullestText() {
        SaltLines x = stands("all as much as can be", Houses.fullHouse(), 10);
        int[] want = {8, 12, 10, 6, 0, 0, 999, 0, 0, 36, 90, 0, 0, 0};
        for (int what = 0; what < want.length; what++) check.due("full: told(" + what + ")", x.told(what), want[what]);
    }
}
