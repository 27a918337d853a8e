/** What the tests share: objects made from a text, and answers held against those that are due. */
final class Due {
    static final int NONE = -1, UNKNOWN = -1000000001, OUTSIDE = -1000000002, NOT = -1000000003, FULL = -1000000004;

    private int asked = 0;
    private int wrong = 0;

    void is(String call, int got, int want) {
        asked++;
        if (got != want) {
            wrong++;
            System.out.println(call + " answered " + got + ", due is " + want);
        }
    }

    /** Feeds a text to an object and makes it the house: what house() answers. */
    static int tell(LevelVotes x, String text) {
        for (int k = 0; k < text.length(); k++) {
            x.feed(text.charAt(k));
        }
        return x.house();
    }

    static LevelVotes made(String text) {
        LevelVotes x = new LevelVotes();
        int items = tell(x, text);
        if (items < 0) {
            throw new IllegalStateException(text + " has a fault: " + items + " at " + x.fault());
        }
        return x;
    }

    void end() {
        System.out.println(asked + " answers, " + wrong + " not as due");
        if (wrong != 0 || asked == 0) {
            System.exit(1);
        }
    }
}
