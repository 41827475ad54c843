import java.lang.reflect.Method;
import java.util.Random;

/** Calls and texts drawn by number; a call is made by its name, so that SaltLines and the model are asked alike. */
final class Calls {
    private static final String[] NAMES = {"house", "fault", "told", "door", "person", "room", "rain", "hour", "step", "lay",
        "sweep", "buy", "wish", "drift", "undo", "stops", "comers", "way", "keepOut", "soften", "parts", "worst", "lasts", "mend",
        "holds", "mostCrossed", "narrow", "first", "share", "dry", "see", "ills", "lookAt", "write", "judge", "tear", "seed",
        "keep", "goBack", "feed"};
    static final int KINDS = NAMES.length;

    private Calls() {
    }

    static String name(int kind, int a, int b, int c) {
        return NAMES[kind] + "(" + a + ", " + b + ", " + c + ")";
    }

    /** Numbers a, b, c go to the call in turn, as many as it takes; b tells a yes or no. */
    static int ask(Object x, int kind, int a, int b, int c) {
        try {
            for (Method method : x.getClass().getDeclaredMethods()) {
                if (!method.getName().equals(NAMES[kind])) continue;
                int[] numbers = {a, b, c};
                Class<?>[] types = method.getParameterTypes();
                Object[] given = new Object[types.length];
                for (int i = 0; i < given.length; i++) given[i] = types[i] == boolean.class ? (Object) ((b & 1) == 1) : numbers[i];
                return (Integer) method.invoke(x, given);
            }
        } catch (ReflectiveOperationException e) {
            throw new IllegalStateException(name(kind, a, b, c), e);
        }
        throw new IllegalStateException("no call " + NAMES[kind]);
    }

    /** A text of a house, mostly without a fault. */
    static String text(Random random) {
        int rooms = 2 + random.nextInt(7);
        StringBuilder s = new StringBuilder("h" + rooms + " " + random.nextInt(60));
        int rains = random.nextInt(5) == 0 ? 12 : random.nextInt(5);
        for (int i = 0; i < rains; i++) s.append(',').append(random.nextInt(3) == 0 ? random.nextInt(4) : 0);
        s.append(';');
        boolean[] told = new boolean[64];
        int doors = 1 + random.nextInt(10);
        for (int i = 0; i < 40 && doors > 0; i++) {
            int a = random.nextInt(rooms);
            int b = random.nextInt(rooms);
            if (a == b || told[a * 8 + b]) continue;
            told[a * 8 + b] = true;
            told[b * 8 + a] = true;
            doors--;
            s.append('d').append(a).append(' ').append(b).append(' ').append(random.nextInt(10)).append(' ').append(random.nextInt(2)).append(';');
        }
        int persons = random.nextInt(7);
        for (int i = 0; i < persons; i++) {
            int w = random.nextInt(3) == 0 ? random.nextInt(19) : random.nextInt(9);
            s.append('p').append(random.nextInt(rooms)).append(' ').append(w).append(';');
        }
        return s.toString();
    }

    /** The text with some letters put in, put out or put otherwise. */
    static String spoilt(String text, Random random) {
        StringBuilder s = new StringBuilder(text);
        String letters = "hdp,;0123456789     x";
        int times = random.nextInt(4);
        for (int i = 0; i < times; i++) {
            int at = random.nextInt(s.length());
            char c = letters.charAt(random.nextInt(letters.length()));
            switch (random.nextInt(4)) {
                case 0 -> s.insert(at, c);
                case 1 -> s.setCharAt(at, c);
                case 2 -> s.setLength(Math.max(1, s.length() - random.nextInt(5)));
                default -> s.deleteCharAt(at);
            }
            if (s.length() == 0) s.append(' ');
        }
        return s.toString();
    }
}
