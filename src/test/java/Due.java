/** What the tests share: they tell every answer that is not the one due, and end with exit code 1 if there was one. */
final class Due {
    static final int NONE = SecondHas.NONE;
    static final int HIDDEN = SecondHas.HIDDEN;

    private int wrong;
    private int asked;
    private String heading = "";

    /** What all that is asked from here on is asked for. */
    void under(String words) {
        heading = words;
    }

    int asked() {
        return asked;
    }

    void is(String call, long got, long want) {
        asked++;
        if (got != want) {
            wrong++;
            System.out.println(heading + call + " answered " + got + ", due is " + want);
        }
    }

    void is(String call, boolean got, boolean want) {
        is(call, got ? 1 : 0, want ? 1 : 0);
    }

    void is(String told, String got, String want) {
        asked++;
        if (!got.equals(want)) {
            wrong++;
            System.out.println(heading + told + " is " + got + ", due is " + want);
        }
    }

    void end(String test) {
        System.out.println(test + ": " + asked + " answers, " + wrong + " wrong");
        if (wrong != 0) {
            System.exit(1);
        }
    }

    /** Feeds a text as it stands; bytes above 127 are told as characters up to 255. */
    static int feed(SecondHas x, String text) {
        int size = x.count(2);
        for (int from = 0; from < text.length(); from += 20) {
            int[] numbers = new int[5];
            for (int i = 0; i < 20; i++) {
                int one = from + i < text.length() ? text.charAt(from + i) & 255 : 0;
                numbers[i / 4] = numbers[i / 4] << 8 | one;
            }
            size = x.feed(numbers[0], numbers[1], numbers[2], numbers[3], numbers[4]);
        }
        return size;
    }

    static int fault(String text, int sort) {
        SecondHas x = new SecondHas();
        feed(x, text);
        return x.fault(sort);
    }

    static int land(SecondHas x, String text) {
        x.end(0);
        feed(x, text);
        return x.text(0);
    }

    static int rule(SecondHas x, String text) {
        x.end(0);
        feed(x, text);
        return x.text(1);
    }

    static SecondHas of(String land, String... rules) {
        SecondHas x = new SecondHas();
        for (String rule : rules) {
            rule(x, rule);
        }
        land(x, land);
        return x;
    }

    /** What striver answers, or the sign that it threw what the document names. */
    static long striver(SecondHas x, int striver, int what) {
        try {
            return x.striver(striver, what);
        } catch (java.util.NoSuchElementException e) {
            return Long.MIN_VALUE;
        }
    }
}
