import java.util.ArrayDeque;
import java.util.ArrayList;
import java.util.Arrays;
import java.util.HashSet;
import java.util.List;
import java.util.Set;
import java.util.TreeMap;

/**
 * A second writing of the document, plain and slow, by other means than SaltLines: tokens and a map of faults for
 * the text, deep copies for what is undone, searches through all sets of lines and all paths for what is tried.
 */
final class Model {
    static final int NONE = -1, UNKNOWN = -1000000001, OUTSIDE = -1000000002, NOT = -1000000003, FULL = -1000000004;

    /** All of section 2 and the plan of the house. */
    private static final class World {
        int rooms, store, hours, stopped;
        List<Integer> rains = new ArrayList<>();
        List<int[]> doors = new ArrayList<>();     // A, B, spoons, O, crossed
        List<int[]> persons = new ArrayList<>();   // room, wish

        World copy() {
            World w = new World();
            w.rooms = rooms;
            w.store = store;
            w.hours = hours;
            w.stopped = stopped;
            w.rains.addAll(rains);
            for (int[] d : doors) w.doors.add(d.clone());
            for (int[] p : persons) w.persons.add(p.clone());
            return w;
        }

        int ill(int p) {
            return Math.max(0, -persons.get(p)[1]);
        }

        int rainOf(int hour) {
            return rains.isEmpty() ? 0 : rains.get(hour % rains.size());
        }

        boolean open(int d, int ill) {
            int spoons = doors.get(d)[2];
            return spoons < 1 || ill < 1 || spoons + ill < 10;
        }

        int spoons() {
            return doors.stream().mapToInt(d -> d[2]).sum();
        }

        int crossed() {
            return doors.stream().mapToInt(d -> d[4]).sum();
        }

        void hour() {
            for (int[] d : doors) {
                for (int i = 0; i < rainOf(hours); i++) if (d[3] == 1 && d[2] > 0) d[2]--;
            }
            hours++;
            if (hours % 24 != 0) return;
            for (int[] p : persons) p[1] += p[1] < 0 ? 1 : p[1] > 0 ? -1 : 0;
        }

        boolean canStep(int p, int d) {
            int a = persons.get(p)[0];
            return doors.get(d)[0] == a || doors.get(d)[1] == a;
        }

        void step(int p, int d) {
            if (!open(d, ill(p))) {
                stopped++;
                return;
            }
            int[] door = doors.get(d);
            persons.get(p)[0] = door[0] + door[1] - persons.get(p)[0];
            door[4]++;
            if (door[4] % 4 == 0 && door[2] > 0) door[2]--;
        }

        /** By how many doors each room is reached, -1 not at all. */
        int[] distances(int from, int ill, int without) {
            int[] far = new int[rooms];
            Arrays.fill(far, -1);
            far[from] = 0;
            ArrayDeque<Integer> queue = new ArrayDeque<>(List.of(from));
            while (!queue.isEmpty()) {
                int a = queue.poll();
                for (int d = 0; d < doors.size(); d++) {
                    int[] door = doors.get(d);
                    if (d == without || !open(d, ill) || door[0] != a && door[1] != a) continue;
                    int b = door[0] + door[1] - a;
                    if (far[b] >= 0) continue;
                    far[b] = far[a] + 1;
                    queue.add(b);
                }
            }
            return far;
        }

        boolean comes(int p, int a) {
            return distances(persons.get(p)[0], ill(p), -1)[a] >= 0;
        }

        int partsWithout(int ill, int without) {
            Set<Integer> parts = new HashSet<>();
            for (int a = 0; a < rooms; a++) parts.add(setOf(distances(a, ill, without)));
            return parts.size();
        }

        static int setOf(int[] far) {
            int set = 0;
            for (int a = 0; a < far.length; a++) if (far[a] >= 0) set += 1 << a;
            return set;
        }
    }

    private World now = new World();
    private final ArrayDeque<World> past = new ArrayDeque<>();
    private final World[] images = new World[2];
    private final long[] imageSeeds = new long[2];
    private final List<int[]> seen = new ArrayList<>();
    private final List<int[]> book = new ArrayList<>();
    private final StringBuilder text = new StringBuilder();
    private int faultPlace = NONE;
    private long seed;

    private boolean noRoom(int a) {
        return a < 0 || a >= now.rooms;
    }

    private boolean noDoor(int d) {
        return d < 0 || d >= now.doors.size();
    }

    private boolean noPerson(int p) {
        return p < 0 || p >= now.persons.size();
    }

    private static boolean out(int v, int low, int high) {
        return v < low || v > high;
    }

    private void deed() {
        past.push(now.copy());
        if (past.size() > 30) past.removeLast();
    }

    // ---- the house

    int feed(int letter) {
        if (out(letter, 0, 255)) return OUTSIDE;
        if (text.length() == 240) return FULL;
        text.append((char) letter);
        return text.length();
    }

    int house() {
        String whole = text.toString();
        text.setLength(0);
        TreeMap<Integer, Integer> faults = new TreeMap<>();
        World w = parse(whole, faults);
        faultPlace = NONE;
        if (!faults.isEmpty()) {
            faultPlace = faults.firstKey();
            return -10 - faults.firstEntry().getValue();
        }
        now = w;
        past.clear();
        seen.clear();
        book.clear();
        Arrays.fill(images, null);
        return now.doors.size();
    }

    /** Tokens: {kind, place, figures, value}; kind is 'n' for a number, 'e' for the end. */
    private static List<int[]> tokens(String s) {
        List<int[]> all = new ArrayList<>();
        int i = 0;
        while (i < s.length()) {
            char c = s.charAt(i);
            if (c == ' ') {
                i++;
            } else if (c >= '0' && c <= '9') {
                int j = i;
                while (j < s.length() && s.charAt(j) >= '0' && s.charAt(j) <= '9') j++;
                int value = j - i > 3 ? -1 : Integer.parseInt(s.substring(i, j));
                all.add(new int[] {'n', i, j - i, value});
                i = j;
            } else {
                all.add(new int[] {"hdp,;".indexOf(c) >= 0 ? c : '?', i, 0, 0});
                i++;
            }
        }
        all.add(new int[] {'e', s.length(), 0, 0});
        return all;
    }

    private static void put(TreeMap<Integer, Integer> faults, int place, int number) {
        faults.merge(place, number, Math::min);
    }

    /** Goes on through a clause until a word cannot stand there; a number out of bounds is taken as it is. */
    private static World parse(String s, TreeMap<Integer, Integer> faults) {
        World w = new World();
        List<int[]> t = tokens(s);
        int i = 0;
        boolean headed = false;
        while (t.get(i)[0] != 'e') {
            int[] word = t.get(i);
            String shape = word[0] == 'h' ? "nn" : word[0] == 'd' ? "nnnn" : word[0] == 'p' ? "nn" : null;
            if (shape == null || !headed && word[0] != 'h') {
                put(faults, word[1], 1);
                return w;
            }
            if (word[0] == 'h' && headed || word[0] == 'd' && w.doors.size() == 10 || word[0] == 'p' && w.persons.size() == 6) {
                put(faults, word[1], 3);
                return w;
            }
            i++;
            List<int[]> numbers = new ArrayList<>();
            for (int k = 0; k < shape.length(); k++, i++) {
                if (t.get(i)[0] != 'n') {
                    put(faults, t.get(i)[1], 1);
                    take(w, word[0], numbers, faults);
                    return w;
                }
                numbers.add(t.get(i));
            }
            for (int r = 1; word[0] == 'h' && t.get(i)[0] == ','; r++, i += 2) {
                if (r == 13) put(faults, t.get(i)[1], 1);
                if (t.get(i + 1)[0] != 'n') {
                    put(faults, t.get(i + 1)[1], 1);
                    take(w, word[0], numbers, faults);
                    return w;
                }
                numbers.add(t.get(i + 1));
            }
            if (t.get(i)[0] != ';') put(faults, t.get(i)[1], 1);
            take(w, word[0], numbers, faults);
            if (!faults.isEmpty()) return w;
            headed = true;
            i++;
        }
        return w;
    }

    private static void bound(int[] number, int low, int high, TreeMap<Integer, Integer> faults) {
        if (number[2] > 3 || out(number[3], low, high)) put(faults, number[1], 2);
    }

    private static void take(World w, int word, List<int[]> n, TreeMap<Integer, Integer> faults) {
        int[][] bounds = word == 'h' ? new int[][] {{2, 8}, {0, 999}}
            : word == 'd' ? new int[][] {{0, w.rooms - 1}, {0, w.rooms - 1}, {0, 9}, {0, 1}}
            : new int[][] {{0, w.rooms - 1}, {0, 18}};
        for (int i = 0; i < n.size(); i++) {
            if (i < bounds.length) bound(n.get(i), bounds[i][0], bounds[i][1], faults);
            else bound(n.get(i), 0, 3, faults);
        }
        if (word == 'd' && n.size() >= 2) {
            int a = n.get(0)[3];
            int b = n.get(1)[3];
            boolean told = a == b;
            for (int[] d : w.doors) told |= d[0] == a && d[1] == b || d[0] == b && d[1] == a;
            if (told) put(faults, n.get(1)[1], 4);
        }
        if (!faults.isEmpty()) return;
        if (word == 'h') {
            w.rooms = n.get(0)[3];
            w.store = n.get(1)[3];
            for (int i = 2; i < n.size(); i++) w.rains.add(n.get(i)[3]);
        } else if (word == 'd') {
            w.doors.add(new int[] {n.get(0)[3], n.get(1)[3], n.get(2)[3], n.get(3)[3], 0});
        } else {
            w.persons.add(new int[] {n.get(0)[3], n.get(1)[3] - 9});
        }
    }

    int fault() {
        return faultPlace;
    }

    int told(int what) {
        int shut = 0;
        for (int p = 0; p < now.persons.size(); p++) if (!now.comes(p, 0)) shut += 1 << p;
        int[] all = {now.rooms, now.rains.size(), now.doors.size(), now.persons.size(), text.length(), now.hours, now.store,
            now.stopped, now.crossed(), shut, now.spoons(), seen.size(), book.size(), past.size()};
        return out(what, 0, 13) ? OUTSIDE : all[what];
    }

    int door(int d, int what) {
        if (noDoor(d)) return UNKNOWN;
        if (out(what, 0, 5)) return OUTSIDE;
        if (what < 5) return now.doors.get(d)[what];
        int set = 0;
        for (int p = 0; p < now.persons.size(); p++) if (!now.open(d, now.ill(p))) set += 1 << p;
        return set;
    }

    int person(int p, int what) {
        if (noPerson(p)) return UNKNOWN;
        if (out(what, 0, 3)) return OUTSIDE;
        int[] person = now.persons.get(p);
        int[] all = {person[0], person[1] + 9, now.ill(p), World.setOf(now.distances(person[0], now.ill(p), -1))};
        return all[what];
    }

    int room(int a) {
        if (noRoom(a)) return UNKNOWN;
        int set = 0;
        for (int p = 0; p < now.persons.size(); p++) if (now.persons.get(p)[0] == a) set += 1 << p;
        return set;
    }

    int rain(int n) {
        if (out(n, 0, 99)) return OUTSIDE;
        if (now.rooms == 0) return NOT;
        return now.rainOf(now.hours + n);
    }

    // ---- deeds

    int hour(int n) {
        if (out(n, 1, 30)) return OUTSIDE;
        if (now.rooms == 0) return NOT;
        if (now.hours > 90000) return FULL;
        for (int i = 0; i < n; i++) {
            deed();
            now.hour();
        }
        return now.spoons();
    }

    int step(int p, int d) {
        if (noPerson(p) || noDoor(d)) return UNKNOWN;
        if (!now.canStep(p, d)) return NOT;
        deed();
        now.step(p, d);
        return now.persons.get(p)[0];
    }

    int lay(int d, int k) {
        if (noDoor(d)) return UNKNOWN;
        if (out(k, 1, 9)) return OUTSIDE;
        if (now.store < k || now.doors.get(d)[2] + k > 9) return NOT;
        deed();
        now.store -= k;
        return now.doors.get(d)[2] += k;
    }

    int sweep(int d) {
        if (noDoor(d)) return UNKNOWN;
        if (now.doors.get(d)[2] == 0) return NOT;
        deed();
        now.store = Math.min(999, now.store + now.doors.get(d)[2] / 2);
        now.doors.get(d)[2] = 0;
        return now.store;
    }

    int buy(int n) {
        if (out(n, 1, 999)) return OUTSIDE;
        if (now.rooms == 0) return NOT;
        deed();
        return now.store = Math.min(999, now.store + n);
    }

    int wish(int p, int by) {
        if (noPerson(p)) return UNKNOWN;
        if (out(by, -9, 9)) return OUTSIDE;
        deed();
        int[] person = now.persons.get(p);
        for (int i = 0; i < Math.abs(by); i++) {
            int next = person[1] + Integer.signum(by);
            if (!out(next, -9, 9)) person[1] = next;
        }
        return person[1] + 9;
    }

    private int draw(int n) {
        seed = (seed * 1103515245L + 12345L) % (1L << 31);
        return (int) (seed / 65536 % n);
    }

    int drift(int n) {
        if (out(n, 1, 30)) return OUTSIDE;
        if (now.rooms == 0) return NOT;
        if (now.hours > 90000) return FULL;
        for (int i = 0; i < n; i++) {
            deed();
            if (!now.persons.isEmpty() && !now.doors.isEmpty()) {
                int p = draw(now.persons.size());
                int d = draw(now.doors.size());
                if (now.canStep(p, d)) now.step(p, d);
            }
            if (draw(6) == 0) now.hour();
        }
        return now.crossed();
    }

    int undo(int n) {
        if (out(n, 1, 30)) return OUTSIDE;
        if (past.size() < n) return NOT;
        for (int i = 0; i < n; i++) now = past.pop();
        return now.hours;
    }

    // ---- tried

    int stops(int p, int d) {
        if (noPerson(p) || noDoor(d)) return UNKNOWN;
        return now.open(d, now.ill(p)) ? 0 : 1;
    }

    int comers(int a) {
        if (noRoom(a)) return UNKNOWN;
        int set = 0;
        for (int p = 0; p < now.persons.size(); p++) if (now.comes(p, a)) set += 1 << p;
        return set;
    }

    /** All paths of doors without a room twice; {length, first door} of the best. */
    private void paths(int at, int goal, int ill, int rooms, int[] pathBest, int length, int firstDoor) {
        if (at == goal) {
            boolean better = length < pathBest[0] || length == pathBest[0] && firstDoor < pathBest[1];
            if (better) {
                pathBest[0] = length;
                pathBest[1] = firstDoor;
            }
            return;
        }
        for (int d = 0; d < now.doors.size(); d++) {
            int[] door = now.doors.get(d);
            if (!now.open(d, ill) || door[0] != at && door[1] != at) continue;
            int b = door[0] + door[1] - at;
            if ((rooms >> b & 1) == 1) continue;
            paths(b, goal, ill, rooms | 1 << b, pathBest, length + 1, length == 0 ? d : firstDoor);
        }
    }

    int way(int p, int a, int what) {
        if (noPerson(p) || noRoom(a)) return UNKNOWN;
        if (out(what, 0, 1)) return OUTSIDE;
        int from = now.persons.get(p)[0];
        int[] best = {99, 99};
        paths(from, a, now.ill(p), 1 << from, best, 0, NONE);
        return best[0] == 99 ? NONE : best[what];
    }

    int keepOut(int p, int a, int what) {
        if (noPerson(p) || noRoom(a)) return UNKNOWN;
        if (out(what, 0, 1)) return OUTSIDE;
        World was = now;
        int[] best = {NONE, NONE};
        for (int set = 0; set < 1 << was.doors.size(); set++) {
            now = was.copy();
            int cost = 0;
            for (int d = 0; d < now.doors.size(); d++) {
                while ((set >> d & 1) == 1 && now.open(d, now.ill(p)) && now.doors.get(d)[2] < 9) {
                    now.doors.get(d)[2]++;
                    cost++;
                }
            }
            if (!now.comes(p, a) && (best[0] == NONE || cost < best[0])) best = new int[] {cost, set};
        }
        now = was;
        return best[what];
    }

    int soften(int p, int a) {
        if (noPerson(p) || noRoom(a)) return UNKNOWN;
        World was = now;
        int by = NONE;
        for (int i = 9; i >= 0; i--) {
            now = was.copy();
            now.persons.get(p)[1] += i;
            if (now.comes(p, a)) by = i;
        }
        now = was;
        return by;
    }

    int parts(int x, int a) {
        if (a != NONE && noRoom(a)) return UNKNOWN;
        if (out(x, 0, 9)) return OUTSIDE;
        if (now.rooms == 0) return NOT;
        return a == NONE ? now.partsWithout(x, -1) : World.setOf(now.distances(a, x, -1));
    }

    int worst(int a) {
        if (noRoom(a)) return UNKNOWN;
        for (int x = 0; x <= 9; x++) if (now.distances(0, x, -1)[a] < 0) return x;
        return NONE;
    }

    int lasts(int d) {
        if (noDoor(d)) return UNKNOWN;
        if (now.doors.get(d)[3] == 0) return NONE;
        World w = now.copy();
        for (int n = 0; n <= 99; n++) {
            if (w.doors.get(d)[2] == 0) return n;
            w.hour();
        }
        return NONE;
    }

    int mend(int n) {
        if (out(n, 0, 99)) return OUTSIDE;
        World w = now.copy();
        int laid = 0;
        for (int i = 0; i < n; i++) {
            w.hour();
            for (int d = 0; d < w.doors.size(); d++) {
                laid += now.doors.get(d)[2] - w.doors.get(d)[2];
                w.doors.get(d)[2] = now.doors.get(d)[2];
            }
        }
        return laid;
    }

    int holds(int what) {
        if (out(what, 0, 1)) return OUTSIDE;
        for (int n = 1; n <= 99; n++) {
            for (int d = 0; d < now.doors.size(); d++) if (lasts(d) == n) return what == 0 ? d : n;
        }
        return NONE;
    }

    int mostCrossed() {
        int best = NONE;
        for (int d = now.doors.size() - 1; d >= 0; d--) {
            int count = now.doors.get(d)[4];
            if (count > 0 && (best == NONE || count >= now.doors.get(best)[4])) best = d;
        }
        return best;
    }

    int narrow() {
        int set = 0;
        for (int d = 0; d < now.doors.size(); d++) {
            if (now.partsWithout(0, d) > now.partsWithout(0, -1)) set += 1 << d;
        }
        return set;
    }

    int first() {
        for (int x = 9; x >= 0; x--) {
            for (int p = 0; p < now.persons.size(); p++) if (now.ill(p) == x && now.comes(p, 0)) return p;
        }
        return NONE;
    }

    int share(int x, int what) {
        if (out(x, 0, 999) || out(what, 0, 1)) return OUTSIDE;
        World w = now.copy();
        int left = x;
        boolean given = true;
        while (given) {
            given = false;
            for (int[] d : w.doors) {
                if (left == 0 || d[2] == 9) continue;
                d[2]++;
                left--;
                given = true;
            }
        }
        return what == 1 ? left : (int) w.doors.stream().filter(d -> d[2] == 9).count();
    }

    int dry(int n, int q) {
        if (out(n, 0, 60) || out(q, 0, 100)) return OUTSIDE;
        long odds = 1000000000;
        for (int i = n; i > 0; i--) odds = odds * q / 100;
        return (int) odds;
    }

    // ---- what was seen

    private static boolean stoppedBy(int k, int x) {
        return k > 0 && x > 0 && k + x > 9;
    }

    int see(int k, boolean stopped) {
        if (out(k, 0, 9)) return OUTSIDE;
        if (seen.size() == 6) return FULL;
        seen.add(new int[] {k, stopped ? 1 : 0});
        return seen.size();
    }

    int ills() {
        int set = 0;
        for (int x = 0; x <= 9; x++) {
            boolean fits = true;
            for (int[] s : seen) fits &= stoppedBy(s[0], x) == (s[1] == 1);
            if (fits) set += 1 << x;
        }
        return set;
    }

    int lookAt() {
        int best = NONE;
        int bestPart = 99;
        for (int k = 0; k <= 9; k++) {
            int[] part = new int[2];
            for (int x = 0; x <= 9; x++) if ((ills() >> x & 1) == 1) part[stoppedBy(k, x) ? 1 : 0]++;
            int greatest = Math.max(part[0], part[1]);
            if (part[0] > 0 && part[1] > 0 && greatest < bestPart) {
                best = k;
                bestPart = greatest;
            }
        }
        return best;
    }

    int write(int d, int k) {
        if (noDoor(d)) return UNKNOWN;
        if (out(k, 0, 9)) return OUTSIDE;
        if (book.size() == 20) return FULL;
        book.add(new int[] {d, k});
        return book.size();
    }

    int judge() {
        for (int i = 0; i < book.size(); i++) if (now.doors.get(book.get(i)[0])[2] != book.get(i)[1]) return i;
        return NONE;
    }

    int tear() {
        int had = seen.size() + book.size();
        seen.clear();
        book.clear();
        return had;
    }

    // ---- images

    int seed(int v) {
        if (v < 0) return OUTSIDE;
        int was = (int) seed;
        seed = v;
        return was;
    }

    int keep(int i) {
        if (out(i, 0, 1)) return UNKNOWN;
        images[i] = now.copy();
        imageSeeds[i] = seed;
        past.clear();
        return 1;
    }

    int goBack(int i) {
        if (out(i, 0, 1)) return UNKNOWN;
        if (images[i] == null) return NOT;
        now = images[i].copy();
        seed = imageSeeds[i];
        past.clear();
        return 1;
    }
}
