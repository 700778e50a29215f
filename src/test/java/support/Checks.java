/** What the tests share: calls with the answers that are due, and texts fed letter by letter. */
final class Checks {
    private static int wrong = 0;
    private static int asked = 0;

    private Checks() {
    }

    static void due(String call, long got, long want) {
        asked++;
        if (got != want) {
            wrong++;
            System.out.println(call + " answered " + got + ", due is " + want);
        }
    }

    static void feed(BargeTalks x, String text) {
        for (int i = 0; i < text.length(); i++) {
            x.feed(text.charAt(i));
        }
    }

    /** A new object to which a text without fault has been told. */
    static BargeTalks told(String text) {
        BargeTalks x = new BargeTalks();
        feed(x, text);
        int lines = x.text();
        due("text of " + text + " has a fault", lines < 0 ? 1 : 0, 0);
        return x;
    }

    static void finish() {
        System.out.println(asked + " calls, " + wrong + " not as due");
        if (wrong != 0) {
            System.exit(1);
        }
    }
}
