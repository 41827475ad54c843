import java.util.Arrays;

/** A house in the marsh country, shut by lines of salt; ../shared/DOC.md says what each call answers. */
public final class SaltLines {
    public static final int NONE = -1, UNKNOWN = -1000000001, OUTSIDE = -1000000002, NOT = -1000000003, FULL = -1000000004;

    private static final int LETTERS_MOST = 240;
    private static final int ROOMS_LEAST = 2;
    private static final int ROOMS_MOST = 8;
    private static final int DOORS_MOST = 10;
    private static final int PERSONS_MOST = 6;
    private static final int RAINS_MOST = 12;
    private static final int RAIN_MOST = 3;
    private static final int LINE_MOST = 9;
    private static final int STORE_MOST = 999;
    private static final int WISH_MOST = 9;
    private static final int ILL_MOST = 9;
    private static final int STOPS_FROM = 10;
    private static final int YARD = 0;
    private static final int AHEAD_MOST = 99;
    private static final int TURNS_MOST = 30;
    private static final int HOURS_MOST = 90000;
    private static final int SEEN_MOST = 6;
    private static final int BOOK_MOST = 20;
    private static final int IMAGES = 2;
    private static final int BILLION = 1000000000;
    private static final int SPOONS_MOST = DOORS_MOST * LINE_MOST;
    private static final long SEEDS = 2147483648L;

    private final House home = new House();
    private final Tried tried = new Tried(home);
    private final Reader reader = new Reader();
    private final Past past = new Past();
    private final Notes notes = new Notes();
    private final Draws draws = new Draws();
    private final Images images = new Images();

    public SaltLines() {
    }

    // ---- the house

    public int feed(int letter) {
        if (!within(letter, 0, 255)) return OUTSIDE;
        if (reader.letters >= LETTERS_MOST) return FULL;
        reader.append(letter);
        return reader.letters;
    }

    public int house() {
        int faultNumber = reader.readText();
        if (faultNumber != 0) return -10 - faultNumber;
        home.copyFrom(reader.draft);
        past.forget();
        notes.clear();
        images.forget();
        return home.doors;
    }

    public int fault() {
        return reader.faultPlace;
    }

    public int told(int what) {
        switch (what) {
            case 0: return home.rooms;
            case 1: return home.rains;
            case 2: return home.doors;
            case 3: return home.persons;
            case 4: return reader.letters;
            case 5: return home.now.hours();
            case 6: return home.now.store();
            case 7: return home.now.stopped();
            case 8: return home.crossedInAll();
            case 9: return tried.shutIn();
            case 10: return home.spoonsInAll();
            case 11: return notes.seen;
            case 12: return notes.entries;
            case 13: return past.count;
            default: return OUTSIDE;
        }
    }

    public int door(int d, int what) {
        if (!home.hasDoor(d)) return UNKNOWN;
        switch (what) {
            case 0: return home.doorA.get(d);
            case 1: return home.doorB.get(d);
            case 2: return home.now.spoons(d);
            case 3: return home.doorOpen.get(d);
            case 4: return home.now.crossings(d);
            case 5: return home.stoppedAt(d);
            default: return OUTSIDE;
        }
    }

    public int person(int p, int what) {
        if (!home.hasPerson(p)) return UNKNOWN;
        switch (what) {
            case 0: return home.now.place(p);
            case 1: return home.now.wishOf(p) + WISH_MOST;
            case 2: return home.now.ill(p);
            case 3: return tried.roomsOf(p);
            default: return OUTSIDE;
        }
    }

    public int room(int a) {
        if (!home.hasRoom(a)) return UNKNOWN;
        return home.personsIn(a);
    }

    public int rain(int n) {
        if (!within(n, 0, AHEAD_MOST)) return OUTSIDE;
        if (!home.isTold()) return NOT;
        return home.rainBehind(n);
    }

    // ---- deeds

    public int hour(int n) {
        if (!within(n, 1, TURNS_MOST)) return OUTSIDE;
        if (!home.isTold()) return NOT;
        if (home.now.hours() > HOURS_MOST) return FULL;
        for (int i = 0; i < n; i++) {
            past.remember(home.now);
            home.passHour();
        }
        return home.spoonsInAll();
    }

    public int step(int p, int d) {
        if (!home.hasPerson(p) || !home.hasDoor(d)) return UNKNOWN;
        if (!home.isAtDoor(p, d)) return NOT;
        past.remember(home.now);
        home.makeStep(p, d);
        return home.now.place(p);
    }

    public int lay(int d, int k) {
        if (!home.hasDoor(d)) return UNKNOWN;
        if (!within(k, 1, LINE_MOST)) return OUTSIDE;
        int spoons = home.now.spoons(d) + k;
        int left = home.now.store() - k;
        if (left < 0 || spoons > LINE_MOST) return NOT;
        past.remember(home.now);
        home.now.setSpoons(d, spoons);
        home.now.setStore(left);
        return spoons;
    }

    public int sweep(int d) {
        if (!home.hasDoor(d)) return UNKNOWN;
        int spoons = home.now.spoons(d);
        if (spoons == 0) return NOT;
        past.remember(home.now);
        home.now.setSpoons(d, 0);
        home.now.setStore(Math.min(STORE_MOST, home.now.store() + spoons / 2));
        return home.now.store();
    }

    public int buy(int n) {
        if (!within(n, 1, STORE_MOST)) return OUTSIDE;
        if (!home.isTold()) return NOT;
        past.remember(home.now);
        home.now.setStore(Math.min(STORE_MOST, home.now.store() + n));
        return home.now.store();
    }

    public int wish(int p, int by) {
        if (!home.hasPerson(p)) return UNKNOWN;
        if (!within(by, -WISH_MOST, WISH_MOST)) return OUTSIDE;
        past.remember(home.now);
        int moved = home.now.wishOf(p) + by;
        home.now.setWish(p, Math.max(-WISH_MOST, Math.min(WISH_MOST, moved)));
        return home.now.wishOf(p) + WISH_MOST;
    }

    public int drift(int n) {
        if (!within(n, 1, TURNS_MOST)) return OUTSIDE;
        if (!home.isTold()) return NOT;
        if (home.now.hours() > HOURS_MOST) return FULL;
        for (int i = 0; i < n; i++) {
            past.remember(home.now);
            draws.moveOnce(home);
        }
        return home.crossedInAll();
    }

    public int undo(int n) {
        if (!within(n, 1, TURNS_MOST)) return OUTSIDE;
        if (past.count < n) return NOT;
        past.bringBack(home.now, n);
        return home.now.hours();
    }

    // ---- tried

    public int stops(int p, int d) {
        if (!home.hasPerson(p) || !home.hasDoor(d)) return UNKNOWN;
        return home.lineStops(d, home.now.ill(p)) ? 1 : 0;
    }

    public int comers(int a) {
        if (!home.hasRoom(a)) return UNKNOWN;
        return tried.comersTo(a);
    }

    public int way(int p, int a, int what) {
        if (!home.hasPerson(p) || !home.hasRoom(a)) return UNKNOWN;
        if (!within(what, 0, 1)) return OUTSIDE;
        return tried.shortestWay(p, a, what == 1);
    }

    public int keepOut(int p, int a, int what) {
        if (!home.hasPerson(p) || !home.hasRoom(a)) return UNKNOWN;
        if (!within(what, 0, 1)) return OUTSIDE;
        return tried.cheapestCut(p, a, what == 1);
    }

    public int soften(int p, int a) {
        if (!home.hasPerson(p) || !home.hasRoom(a)) return UNKNOWN;
        return tried.leastSoftening(p, a);
    }

    public int parts(int x, int a) {
        if (a != NONE && !home.hasRoom(a)) return UNKNOWN;
        if (!within(x, 0, ILL_MOST)) return OUTSIDE;
        if (!home.isTold()) return NOT;
        return a == NONE ? tried.countParts(x) : tried.partOf(a, x);
    }

    public int worst(int a) {
        if (!home.hasRoom(a)) return UNKNOWN;
        return tried.leastIllKeptFrom(a);
    }

    public int lasts(int d) {
        if (!home.hasDoor(d)) return UNKNOWN;
        return home.isOpen(d) ? tried.hoursUntilGone(d) : NONE;
    }

    public int mend(int n) {
        if (!within(n, 0, AHEAD_MOST)) return OUTSIDE;
        return tried.spoonsToMend(n);
    }

    public int holds(int what) {
        if (!within(what, 0, 1)) return OUTSIDE;
        int d = tried.goneFirst();
        if (d == NONE || what == 0) return d;
        return tried.hoursUntilGone(d);
    }

    public int mostCrossed() {
        return tried.doorMostCrossed();
    }

    public int narrow() {
        return tried.bridges();
    }

    public int first() {
        return tried.worstComer();
    }

    public int share(int x, int what) {
        if (!within(x, 0, STORE_MOST) || !within(what, 0, 1)) return OUTSIDE;
        return what == 0 ? tried.fullIfShared(x) : tried.leftIfShared(x);
    }

    public int dry(int n, int q) {
        if (!within(n, 0, 60) || !within(q, 0, 100)) return OUTSIDE;
        long odds = BILLION;
        for (int i = 0; i < n; i++) odds = odds * q / 100;
        return (int) odds;
    }

    // ---- what was seen

    public int see(int k, boolean stopped) {
        if (!within(k, 0, LINE_MOST)) return OUTSIDE;
        if (notes.seen >= SEEN_MOST) return FULL;
        notes.addSeen(k, stopped);
        return notes.seen;
    }

    public int ills() {
        return notes.fittingIlls();
    }

    public int lookAt() {
        return notes.bestLook();
    }

    public int write(int d, int k) {
        if (!home.hasDoor(d)) return UNKNOWN;
        if (!within(k, 0, LINE_MOST)) return OUTSIDE;
        if (notes.entries >= BOOK_MOST) return FULL;
        notes.addEntry(d, k);
        return notes.entries;
    }

    public int judge() {
        return notes.firstWrong(home.now);
    }

    public int tear() {
        int had = notes.seen + notes.entries;
        notes.clear();
        return had;
    }

    // ---- images

    public int seed(int v) {
        if (v < 0) return OUTSIDE;
        int was = draws.seedNow;
        draws.seedNow = v;
        return was;
    }

    public int keep(int i) {
        if (!within(i, 0, IMAGES - 1)) return UNKNOWN;
        images.take(i, home.now, draws.seedNow);
        past.forget();
        return 1;
    }

    public int goBack(int i) {
        if (!within(i, 0, IMAGES - 1)) return UNKNOWN;
        if (!images.isKept(i)) return NOT;
        images.bringBack(i, home.now);
        draws.seedNow = images.seedOf(i);
        past.forget();
        return 1;
    }

    private static boolean within(int value, int low, int high) {
        return value >= low && value <= high;
    }

    private static boolean holdsBack(int spoons, int ill) {
        return spoons >= 1 && ill >= 1 && spoons + ill >= STOPS_FROM;
    }

    private static int illOfWish(int w) {
        return w < 0 ? -w : 0;
    }

    private static int only(int k) {
        return 1 << k;
    }

    private static boolean inSet(int set, int k) {
        return ((set >> k) & 1) == 1;
    }

    /** The one place where an array is indexed: a cell that there is not reads 0 and takes nothing. */
    private static final class Row {
        private final int[] cells;

        Row(int length) {
            cells = new int[Math.max(0, length)];
        }

        int get(int i) {
            return i >= 0 && i < cells.length ? cells[i] : 0;
        }

        void set(int i, int value) {
            if (i >= 0 && i < cells.length) cells[i] = value;
        }

        void clear() {
            Arrays.fill(cells, 0);
        }

        void copyCells(int to, Row source, int from, int length) {
            for (int i = 0; i < length; i++) set(to + i, source.get(from + i));
        }

        void copyFrom(Row source) {
            copyCells(0, source, 0, cells.length);
        }
    }

    /** All of section 2 that changes, in one row, so that what is undone and the images are plain copies. */
    private static final class State {
        private static final int SPOONS = 0;
        private static final int CROSSINGS = SPOONS + DOORS_MOST;
        private static final int PLACES = CROSSINGS + DOORS_MOST;
        private static final int WISHES = PLACES + PERSONS_MOST;
        private static final int HOURS = WISHES + PERSONS_MOST;
        private static final int STORE = HOURS + 1;
        private static final int STOPPED = STORE + 1;
        private static final int CELLS = STOPPED + 1;

        private final Row row = new Row(CELLS);

        int spoons(int d) {
            return row.get(SPOONS + d);
        }

        void setSpoons(int d, int k) {
            row.set(SPOONS + d, k);
        }

        void takeSpoons(int d, int k) {
            setSpoons(d, Math.max(0, spoons(d) - k));
        }

        int crossings(int d) {
            return row.get(CROSSINGS + d);
        }

        void countCrossing(int d) {
            row.set(CROSSINGS + d, crossings(d) + 1);
        }

        int place(int p) {
            return row.get(PLACES + p);
        }

        void setPlace(int p, int a) {
            row.set(PLACES + p, a);
        }

        int wishOf(int p) {
            return row.get(WISHES + p);
        }

        void setWish(int p, int w) {
            row.set(WISHES + p, w);
        }

        int ill(int p) {
            return illOfWish(wishOf(p));
        }

        int hours() {
            return row.get(HOURS);
        }

        void countHour() {
            row.set(HOURS, hours() + 1);
        }

        int store() {
            return row.get(STORE);
        }

        void setStore(int spoons) {
            row.set(STORE, spoons);
        }

        int stopped() {
            return row.get(STOPPED);
        }

        void countStopped() {
            row.set(STOPPED, stopped() + 1);
        }

        void clear() {
            row.clear();
        }

        void copyFrom(State other) {
            row.copyFrom(other.row);
        }

        void writeTo(Row shelf, int slot) {
            shelf.copyCells(slot * CELLS, row, 0, CELLS);
        }

        void readFrom(Row shelf, int slot) {
            row.copyCells(0, shelf, slot * CELLS, CELLS);
        }
    }

    /** What the text told, and how it is now; no rooms: no house. */
    private static final class House {
        final Row rainfall = new Row(RAINS_MOST);
        final Row doorA = new Row(DOORS_MOST);
        final Row doorB = new Row(DOORS_MOST);
        final Row doorSides = new Row(DOORS_MOST);
        final Row doorOpen = new Row(DOORS_MOST);
        final State now = new State();
        int rooms;
        int rains;
        int doors;
        int persons;

        void clear() {
            rooms = 0;
            rains = 0;
            doors = 0;
            persons = 0;
            now.clear();
        }

        void copyFrom(House other) {
            rooms = other.rooms;
            rains = other.rains;
            doors = other.doors;
            persons = other.persons;
            rainfall.copyFrom(other.rainfall);
            doorA.copyFrom(other.doorA);
            doorB.copyFrom(other.doorB);
            doorSides.copyFrom(other.doorSides);
            doorOpen.copyFrom(other.doorOpen);
            now.copyFrom(other.now);
        }

        void addRain(int r) {
            rainfall.set(rains, r);
            rains++;
        }

        void addDoor(int a, int b, int k, int o) {
            doorA.set(doors, a);
            doorB.set(doors, b);
            doorSides.set(doors, only(a) | only(b));
            doorOpen.set(doors, o);
            now.setSpoons(doors, k);
            doors++;
        }

        void addPerson(int a, int w) {
            now.setPlace(persons, a);
            now.setWish(persons, w - WISH_MOST);
            persons++;
        }

        boolean isTold() {
            return rooms > 0;
        }

        boolean hasRoom(int a) {
            return a >= 0 && a < rooms;
        }

        boolean hasDoor(int d) {
            return d >= 0 && d < doors;
        }

        boolean hasPerson(int p) {
            return p >= 0 && p < persons;
        }

        boolean isOpen(int d) {
            return doorOpen.get(d) == 1;
        }

        boolean isJoined(int a, int b) {
            for (int d = 0; d < doors; d++) {
                if (doorSides.get(d) == (only(a) | only(b))) return true;
            }
            return false;
        }

        boolean isAtDoor(int p, int d) {
            return inSet(doorSides.get(d), now.place(p));
        }

        int personsIn(int a) {
            int set = 0;
            for (int p = 0; p < persons; p++) {
                if (now.place(p) == a) set |= only(p);
            }
            return set;
        }

        int rainBehind(int n) {
            return rains > 0 ? rainfall.get((now.hours() + n) % rains) : 0;
        }

        boolean lineStops(int d, int ill) {
            return holdsBack(now.spoons(d), ill);
        }

        /** Doors whose lines let one of this ill through, as a set. */
        int passable(int ill) {
            int set = 0;
            for (int d = 0; d < doors; d++) {
                if (!holdsBack(now.spoons(d), ill)) set |= only(d);
            }
            return set;
        }

        int stoppedAt(int d) {
            int set = 0;
            for (int p = 0; p < persons; p++) {
                if (lineStops(d, now.ill(p))) set |= only(p);
            }
            return set;
        }

        int spoonsInAll() {
            int sum = 0;
            for (int d = 0; d < doors; d++) sum += now.spoons(d);
            return sum;
        }

        int crossedInAll() {
            int sum = 0;
            for (int d = 0; d < doors; d++) sum += now.crossings(d);
            return sum;
        }

        void makeStep(int p, int d) {
            if (lineStops(d, now.ill(p))) {
                now.countStopped();
                return;
            }
            now.setPlace(p, now.place(p) == doorA.get(d) ? doorB.get(d) : doorA.get(d));
            now.countCrossing(d);
            if (now.crossings(d) % 4 == 0) now.takeSpoons(d, 1);
        }

        void passHour() {
            int r = rainBehind(0);
            for (int d = 0; d < doors; d++) {
                if (isOpen(d)) now.takeSpoons(d, r);
            }
            now.countHour();
            if (now.hours() % 24 == 0) calmWishes();
        }

        private void calmWishes() {
            for (int p = 0; p < persons; p++) {
                int w = now.wishOf(p);
                now.setWish(p, w - Integer.signum(w));
            }
        }
    }

    /** Reads the text into a draft, so that a fault leaves the house as it was. */
    private static final class Reader {
        private static final int STRAY = 1;
        private static final int BOUNDS = 2;
        private static final int TOO_MANY = 3;
        private static final int SAME_ROOMS = 4;

        final House draft = new House();
        int letters;
        int faultPlace = NONE;
        private final Row text = new Row(LETTERS_MOST);
        private int faultNumber;
        private int next;
        private int numberPlace;

        void append(int letter) {
            text.set(letters, letter);
            letters++;
        }

        /** The number of the first fault, 0 if there is none; the text is empty then. */
        int readText() {
            draft.clear();
            faultNumber = 0;
            faultPlace = NONE;
            next = 0;
            skipBlanks();
            if (next < letters) readRooms();
            skipBlanks();
            for (int turn = 0; turn < LETTERS_MOST && faultNumber == 0 && next < letters; turn++) {
                readClause();
                skipBlanks();
            }
            letters = 0;
            return faultNumber;
        }

        private void readRooms() {
            readWord('h');
            draft.rooms = readNumber(ROOMS_LEAST, ROOMS_MOST);
            draft.now.setStore(readNumber(0, STORE_MOST));
            skipBlanks();
            for (int r = 0; r < RAINS_MOST && letterAtNext() == ','; r++) {
                next++;
                draft.addRain(readNumber(0, RAIN_MOST));
                skipBlanks();
            }
            readWord(';');
        }

        private void readClause() {
            int word = letterAtNext();
            if (word == 'd' && draft.doors < DOORS_MOST) {
                readDoor();
            } else if (word == 'p' && draft.persons < PERSONS_MOST) {
                readPerson();
            } else {
                mark(word == 'h' || word == 'd' || word == 'p' ? TOO_MANY : STRAY, next);
            }
        }

        private void readDoor() {
            readWord('d');
            int a = readNumber(0, draft.rooms - 1);
            int b = readNumber(0, draft.rooms - 1);
            if (a == b || draft.isJoined(a, b)) mark(SAME_ROOMS, numberPlace);
            int k = readNumber(0, LINE_MOST);
            int o = readNumber(0, 1);
            readWord(';');
            draft.addDoor(a, b, k, o);
        }

        private void readPerson() {
            readWord('p');
            int a = readNumber(0, draft.rooms - 1);
            int w = readNumber(0, 2 * WISH_MOST);
            readWord(';');
            draft.addPerson(a, w);
        }

        private void readWord(int word) {
            skipBlanks();
            if (letterAtNext() == word) {
                next++;
            } else {
                mark(STRAY, next);
            }
        }

        private int readNumber(int low, int high) {
            skipBlanks();
            numberPlace = next;
            int value = 0;
            while (next < letters && isFigure(text.get(next))) {
                // beyond three figures only their count matters, so the value cannot run over
                if (next - numberPlace < 3) value = value * 10 + text.get(next) - '0';
                next++;
            }
            int figures = next - numberPlace;
            if (figures == 0) {
                mark(STRAY, next);
            } else if (figures > 3 || !within(value, low, high)) {
                mark(BOUNDS, numberPlace);
            }
            return value;
        }

        private static boolean isFigure(int letter) {
            return within(letter, '0', '9');
        }

        private void skipBlanks() {
            while (next < letters && text.get(next) == ' ') next++;
        }

        private int letterAtNext() {
            return next < letters ? text.get(next) : NONE;
        }

        /** What is read behind a fault lies behind it, so the first that is marked stays. */
        private void mark(int number, int at) {
            if (faultNumber != 0) return;
            faultNumber = number;
            faultPlace = at;
        }
    }

    /** What is tried from now (section 3); nothing changes by it. */
    private static final class Tried {
        private final House home;

        Tried(House home) {
            this.home = home;
        }

        /** A set of rooms, and those that are one door of a set of doors away from it. */
        private int spread(int rooms, int doors) {
            int wider = rooms;
            for (int d = 0; d < home.doors; d++) {
                int sides = home.doorSides.get(d);
                if (inSet(doors, d) && (rooms & sides) != 0) wider |= sides;
            }
            return wider;
        }

        private int reach(int a, int doors) {
            int rooms = only(a);
            for (int i = 1; i < home.rooms; i++) rooms = spread(rooms, doors);
            return rooms;
        }

        int partOf(int a, int ill) {
            return reach(a, home.passable(ill));
        }

        int roomsOf(int p) {
            return partOf(home.now.place(p), home.now.ill(p));
        }

        int comersTo(int a) {
            int set = 0;
            for (int p = 0; p < home.persons; p++) {
                if (inSet(roomsOf(p), a)) set |= only(p);
            }
            return set;
        }

        int shutIn() {
            return (only(home.persons) - 1) & ~comersTo(YARD);
        }

        /** Goes from the end of the way, so that the rooms ahead of the last layer tell the first door. */
        int shortestWay(int p, int a, boolean firstDoor) {
            int from = home.now.place(p);
            int doors = home.passable(home.now.ill(p));
            int nearer = 0;
            int near = only(a);
            for (int count = 0; count < home.rooms; count++) {
                if (inSet(near, from)) return firstDoor ? leastDoor(from, nearer, doors) : count;
                nearer = near;
                near = spread(near, doors);
            }
            return NONE;
        }

        private int leastDoor(int from, int targets, int doors) {
            for (int d = 0; d < home.doors; d++) {
                int sides = home.doorSides.get(d);
                if (inSet(doors, d) && inSet(sides, from) && (sides & targets) != 0) return d;
            }
            return NONE;
        }

        /**
         * The lines of a least set are those that part the rooms it leaves to the person from all others,
         * so all ways to part the rooms are gone through, not all sets of lines.
         */
        int cheapestCut(int p, int a, boolean lines) {
            int from = home.now.place(p);
            int ill = home.now.ill(p);
            if (!inSet(roomsOf(p), a)) return 0;
            if (from == a || ill == 0) return NONE;
            int doors = home.passable(ill);
            int least = SPOONS_MOST + 1;
            int leastLines = 0;
            for (int side = 0; side < only(home.rooms); side++) {
                if (!inSet(side, from) || inSet(side, a)) continue;
                int cut = doors & doorsAcross(side);
                int spoons = spoonsToStop(cut, ill);
                if (spoons < least || spoons == least && cut < leastLines) {
                    least = spoons;
                    leastLines = cut;
                }
            }
            return lines ? leastLines : least;
        }

        private int doorsAcross(int side) {
            int set = 0;
            for (int d = 0; d < home.doors; d++) {
                int sides = home.doorSides.get(d);
                int inside = sides & side;
                if (inside != 0 && inside != sides) set |= only(d);
            }
            return set;
        }

        private int spoonsToStop(int lines, int ill) {
            int sum = 0;
            for (int d = 0; d < home.doors; d++) {
                if (inSet(lines, d)) sum += STOPS_FROM - ill - home.now.spoons(d);
            }
            return sum;
        }

        int leastSoftening(int p, int a) {
            for (int by = 0; by <= WISH_MOST; by++) {
                int ill = illOfWish(home.now.wishOf(p) + by);
                if (inSet(partOf(home.now.place(p), ill), a)) return by;
            }
            return NONE;
        }

        int countParts(int ill) {
            int count = 0;
            int counted = 0;
            for (int a = 0; a < home.rooms; a++) {
                if (inSet(counted, a)) continue;
                counted |= partOf(a, ill);
                count++;
            }
            return count;
        }

        int leastIllKeptFrom(int a) {
            for (int ill = 0; ill <= ILL_MOST; ill++) {
                if (!inSet(partOf(YARD, ill), a)) return ill;
            }
            return NONE;
        }

        int hoursUntilGone(int d) {
            int left = home.now.spoons(d);
            for (int n = 0; n <= AHEAD_MOST; n++) {
                if (left <= 0) return n;
                left -= home.rainBehind(n);
            }
            return NONE;
        }

        int spoonsToMend(int n) {
            int sum = 0;
            for (int i = 0; i < n; i++) {
                int r = home.rainBehind(i);
                for (int d = 0; d < home.doors; d++) {
                    if (home.isOpen(d)) sum += Math.min(r, home.now.spoons(d));
                }
            }
            return sum;
        }

        int goneFirst() {
            int best = NONE;
            int bestHours = AHEAD_MOST + 1;
            for (int d = 0; d < home.doors; d++) {
                if (!home.isOpen(d) || home.now.spoons(d) == 0) continue;
                int n = hoursUntilGone(d);
                if (n != NONE && n < bestHours) {
                    best = d;
                    bestHours = n;
                }
            }
            return best;
        }

        int doorMostCrossed() {
            int best = NONE;
            int most = 0;
            for (int d = 0; d < home.doors; d++) {
                if (home.now.crossings(d) > most) {
                    best = d;
                    most = home.now.crossings(d);
                }
            }
            return best;
        }

        int bridges() {
            int all = only(home.doors) - 1;
            int set = 0;
            for (int d = 0; d < home.doors; d++) {
                int rooms = reach(home.doorA.get(d), all & ~only(d));
                if (!inSet(rooms, home.doorB.get(d))) set |= only(d);
            }
            return set;
        }

        int worstComer() {
            int coming = comersTo(YARD);
            int best = NONE;
            int most = -1;
            for (int p = 0; p < home.persons; p++) {
                if (inSet(coming, p) && home.now.ill(p) > most) {
                    best = p;
                    most = home.now.ill(p);
                }
            }
            return best;
        }

        int fullIfShared(int x) {
            int full = 0;
            for (int d = 0; d < home.doors; d++) {
                if (space(d) == 0 || sharedUntilFull(d) <= x) full++;
            }
            return full;
        }

        /** In the round that fills the line, only doors up to it have had their spoon of that round. */
        private int sharedUntilFull(int d) {
            int sum = 0;
            for (int e = 0; e < home.doors; e++) {
                int rounds = e <= d ? space(d) : space(d) - 1;
                sum += Math.min(space(e), rounds);
            }
            return sum;
        }

        private int space(int d) {
            return LINE_MOST - home.now.spoons(d);
        }

        int leftIfShared(int x) {
            int left = x;
            for (int d = 0; d < home.doors; d++) left -= space(d);
            return Math.max(0, left);
        }
    }

    /** The deeds that can be undone: how all was ahead of each, the oldest overwritten first. */
    private static final class Past {
        private final Row shelf = new Row(TURNS_MOST * State.CELLS);
        private int next;
        int count;

        void forget() {
            next = 0;
            count = 0;
        }

        void remember(State state) {
            state.writeTo(shelf, next);
            next = (next + 1) % TURNS_MOST;
            count = Math.min(TURNS_MOST, count + 1);
        }

        void bringBack(State state, int n) {
            next = Math.floorMod(next - n, TURNS_MOST);
            count = Math.max(0, count - n);
            state.readFrom(shelf, next);
        }
    }

    /** What was seen of one unknown person, and the book of lines. */
    private static final class Notes {
        private final Row seenSpoons = new Row(SEEN_MOST);
        private final Row seenStopped = new Row(SEEN_MOST);
        private final Row bookDoors = new Row(BOOK_MOST);
        private final Row bookSpoons = new Row(BOOK_MOST);
        int seen;
        int entries;

        void clear() {
            seen = 0;
            entries = 0;
        }

        void addSeen(int k, boolean stopped) {
            seenSpoons.set(seen, k);
            seenStopped.set(seen, stopped ? 1 : 0);
            seen++;
        }

        void addEntry(int d, int k) {
            bookDoors.set(entries, d);
            bookSpoons.set(entries, k);
            entries++;
        }

        private static int stoppedIlls(int spoons) {
            int set = 0;
            for (int ill = 0; ill <= ILL_MOST; ill++) {
                if (holdsBack(spoons, ill)) set |= only(ill);
            }
            return set;
        }

        int fittingIlls() {
            int fit = only(ILL_MOST + 1) - 1;
            for (int i = 0; i < seen; i++) {
                int stopped = stoppedIlls(seenSpoons.get(i));
                fit &= seenStopped.get(i) == 1 ? stopped : ~stopped;
            }
            return fit;
        }

        int bestLook() {
            int fit = fittingIlls();
            int all = Integer.bitCount(fit);
            int best = NONE;
            int bestPart = all;
            for (int k = 0; k <= LINE_MOST; k++) {
                int stopped = Integer.bitCount(fit & stoppedIlls(k));
                int part = Math.max(stopped, all - stopped);
                if (part < bestPart) {
                    best = k;
                    bestPart = part;
                }
            }
            return best;
        }

        int firstWrong(State now) {
            for (int i = 0; i < entries; i++) {
                if (now.spoons(bookDoors.get(i)) != bookSpoons.get(i)) return i;
            }
            return NONE;
        }
    }

    /** The seed, and what is done by draws from it. */
    private static final class Draws {
        int seedNow;

        private int draw(int n) {
            seedNow = (int) ((seedNow * 1103515245L + 12345L) % SEEDS);
            return n > 0 ? seedNow / 65536 % n : 0;
        }

        void moveOnce(House home) {
            if (home.persons > 0 && home.doors > 0) {
                int p = draw(home.persons);
                int d = draw(home.doors);
                if (home.isAtDoor(p, d)) home.makeStep(p, d);
            }
            if (draw(6) == 0) home.passHour();
        }
    }

    /** Images of all of section 2 and the seed. */
    private static final class Images {
        private final Row shelf = new Row(IMAGES * State.CELLS);
        private final Row seeds = new Row(IMAGES);
        private final Row kept = new Row(IMAGES);

        void forget() {
            kept.clear();
        }

        boolean isKept(int i) {
            return kept.get(i) == 1;
        }

        int seedOf(int i) {
            return seeds.get(i);
        }

        void take(int i, State state, int seedNow) {
            state.writeTo(shelf, i);
            seeds.set(i, seedNow);
            kept.set(i, 1);
        }

        void bringBack(int i, State state) {
            state.readFrom(shelf, i);
        }
    }
}
