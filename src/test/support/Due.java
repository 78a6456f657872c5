import java.util.function.BooleanSupplier;
import java.util.function.LongSupplier;

/** What the boundary tests share: answers that are due, streets to ask, and all that is seen. */
final class Due {
    static final int NONE = DrinkingRoofs.NONE;
    static final int NOTHING = -1000000000;
    static final int MIN = Integer.MIN_VALUE;
    static final int MAX = Integer.MAX_VALUE;

    private int wrong = 0;
    private int asked = 0;

    void is(String what, long got, long want) {
        asked++;
        if (got != want) {
            wrong++;
            System.out.println(what + ": answered " + got + ", due is " + want);
        }
    }

    void is(String what, boolean got, boolean want) {
        is(what, got ? 1 : 0, want ? 1 : 0);
    }

    /** A call that answers so and leaves all as it was. */
    void leaves(String what, DrinkingRoofs x, LongSupplier call, long want) {
        String before = seen(x);
        is(what, call.getAsLong(), want);
        is(what + " changes nothing", seen(x).equals(before), true);
    }

    /** A call that is refused with false and leaves all as it was. */
    void refused(String what, DrinkingRoofs x, BooleanSupplier call) {
        leaves(what, x, () -> call.getAsBoolean() ? 1 : 0, 0);
    }

    /** Several answers in a row, told as one line. */
    void row(String what, String got, int... want) {
        StringBuilder told = new StringBuilder();
        for (int w : want) {
            told.append(' ').append(w);
        }
        asked++;
        if (!got.contentEquals(told)) {
            wrong++;
            System.out.println(what + ": answered" + got + ", due is" + told);
        }
    }

    void end() {
        System.out.println(wrong == 0 ? asked + " answers are as due"
            : wrong + " answers are not as due");
        if (wrong != 0) {
            System.exit(1);
        }
    }

    /** All that can be asked without changing anything, but for the tape. */
    static String seen(DrinkingRoofs x) {
        StringBuilder all = new StringBuilder();
        for (int what = 0; what <= 8; what++) {
            all.append(x.look(what)).append(' ');
        }
        for (int h = 0; h < x.look(0); h++) {
            all.append("\nhouse ");
            for (int what = 0; what <= 13; what++) {
                all.append(x.of(h, what)).append(' ');
            }
            for (int t = 0; x.hour(h, t, 0) != NONE; t++) {
                all.append(x.hour(h, t, 0)).append(' ').append(x.hour(h, t, 1)).append(' ');
                all.append(x.hour(h, t, 2)).append(' ');
            }
        }
        for (int s = 0; s < x.look(1); s++) {
            all.append("\nstorm ").append(x.look(10 + s)).append(": ");
            for (int t = 0; t < x.look(10 + s); t++) {
                all.append(x.look(100 + 12 * s + t)).append(' ');
            }
        }
        return all.append("\nfault ").append(x.fault(0)).append(' ').append(x.fault(1)).toString();
    }

    /** What 0, 1 or 2 of each hour of the latest storm at a house. */
    static String hours(DrinkingRoofs x, int house, int what) {
        StringBuilder all = new StringBuilder();
        for (int t = 0; x.hour(house, t, what) != NONE; t++) {
            all.append(' ').append(x.hour(house, t, what));
        }
        return all.toString();
    }

    /** One what of each house. */
    static String each(DrinkingRoofs x, int what) {
        StringBuilder all = new StringBuilder();
        for (int h = 0; h < x.look(0); h++) {
            all.append(' ').append(x.of(h, what));
        }
        return all.toString();
    }

    /** A storm of so many hours as falls are told; those below 0 are snow. */
    static int rain(DrinkingRoofs x, int... falls) {
        int s = x.storm(falls.length);
        for (int t = 0; t < falls.length; t++) {
            x.fall(s, t, Math.abs(falls[t]), falls[t] < 0);
        }
        return s;
    }

    static void feed(DrinkingRoofs x, String text) {
        StringBuilder padded = new StringBuilder(text);
        while (padded.length() % 20 != 0) {
            padded.append(' ');
        }
        for (int at = 0; at < padded.length(); at += 20) {
            int[] n = new int[5];
            for (int i = 0; i < 20; i++) {
                n[i / 4] = n[i / 4] << 8 | padded.charAt(at + i) & 255;
            }
            x.feed(n[0], n[1], n[2], n[3], n[4]);
        }
        x.end(text.length());
    }

    /** Feeds a text and takes it as the law. */
    static int law(DrinkingRoofs x, String text) {
        feed(x, text);
        return x.text();
    }

    /** Whether the tape has just so many bytes; nothing of them is cut. */
    static boolean hasTape(DrinkingRoofs x, int n) {
        return !x.end(n + 1) && x.end(n);
    }

    /** One house. */
    static DrinkingRoofs one(int area, int carries) {
        DrinkingRoofs x = new DrinkingRoofs();
        x.house(area, carries, 0, 0);
        return x;
    }

    /** Houses that are all alike, each emptying into the cistern. */
    static DrinkingRoofs many(int houses, int area, int carries) {
        DrinkingRoofs x = new DrinkingRoofs();
        for (int h = 0; h < houses; h++) {
            x.house(area, carries, 0, 1);
        }
        return x;
    }

    /** Houses that are all alike, each emptying on the next. */
    static DrinkingRoofs chain(int houses, int area, int carries) {
        DrinkingRoofs x = many(houses, area, carries);
        for (int h = 0; h + 1 < houses; h++) {
            x.next(h, h + 1);
        }
        return x;
    }

    /** Two houses, a law, a storm that came: something of everything that can be told. */
    static DrinkingRoofs street() {
        DrinkingRoofs x = new DrinkingRoofs();
        x.house(10, 100, 1, 2);
        x.house(5, 60, 3, 4);
        x.next(0, 1);
        x.tell(1, 3, 20);
        x.tell(1, 4, 5);
        rain(x, 12, -3);
        law(x, "pay wet/2;");
        x.comes(0);
        return x;
    }
}
