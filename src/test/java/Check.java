/** What the tests of the project share: counting answers that are not as due, and telling a house. */
final class Check {
    private int wrong;
    private int asked;
    private final String name;

    Check(String name) {
        this.name = name;
    }

    void due(String call, int got, int want) {
        asked++;
        if (got == want) return;
        wrong++;
        System.out.println(name + ": " + call + " answered " + got + ", due is " + want);
    }

    void isTrue(String what, boolean holds) {
        due(what, holds ? 1 : 0, 1);
    }

    void end() {
        System.out.println(name + ": " + asked + " answers, " + wrong + " not as due");
        if (wrong != 0) System.exit(1);
    }

    static int feedAll(SaltLines x, String text) {
        int length = 0;
        for (int i = 0; i < text.length(); i++) length = x.feed(text.charAt(i));
        return length;
    }

    static SaltLines told(String text) {
        SaltLines x = new SaltLines();
        feedAll(x, text);
        int answer = x.house();
        if (answer < 0) throw new IllegalStateException(text + " has a fault: " + answer);
        return x;
    }
}
