import java.util.function.LongSupplier;

/** The boundary cases that promises 1 to 21 name: each call too small, too large, refused, full. */
public final class CallsBoundaryTest {
    private static final int NONE = Due.NONE;
    private static final int NOTHING = Due.NOTHING;
    private static final int MIN = Due.MIN;
    private static final int MAX = Due.MAX;
    private static final Due due = new Due();

    private static void newIsEmpty() {
        DrinkingRoofs x = new DrinkingRoofs();
        due.is("1 houses", x.look(0), 0);
        due.is("1 storms", x.look(1), 0);
        due.is("1 the cistern has", x.look(2), 0);
        due.is("1 its size", x.look(3), 999999);
        due.is("1 off", x.look(4), 0);
        due.is("1 came", x.look(5), 0);
        due.is("1 lines", x.look(6), 0);
        due.is("1 thaw", x.look(7), 1);
        due.is("1 fell", x.look(8), 0);
        due.is("1 of", x.of(0, 0), NOTHING);
        due.is("1 hour", x.hour(0, 0, 0), NONE);
        due.is("1 next", x.next(0, NONE), false);
        due.is("1 tell", x.tell(0, 0, 0), false);
        due.is("1 fall", x.fall(0, 0, 0, false), false);
        due.is("1 comes", x.comes(0), NONE);
        due.is("1 fault", x.fault(0), 0);
        due.is("1 place", x.fault(1), NONE);
        due.is("1 tape", x.end(1), false);
        due.is("1 image", x.image(false), false);
        due.is("1 text", x.text(), 0);
    }

    private static void newThinksOfNothing() {
        DrinkingRoofs x = new DrinkingRoofs();
        due.is("1 blame", x.blame(0, 0, 0, 0), NONE);
        due.is("1 left", x.blame(0, 0, 0, 2), NONE);
        due.is("1 cleanings", x.cleanings(0, NONE, NONE, NONE, 0), NONE);
        due.is("1 gutters", x.gutters(0, 0), NONE);
        due.is("1 stains", x.stains(0, 0), 0);
        due.is("1 stains, storm", x.stains(0, 1), NONE);
        due.is("1 stains, set", x.stains(0, 2), NONE);
        due.is("1 stains, in all", x.stains(0, 3), 0);
        due.is("1 stains of a house", x.stains(1, 0), -2);
        due.is("1 drain", x.drain(0), NONE);
        due.is("1 added", x.added(0, 1, 1, 0), NOTHING);
        DrinkingRoofs other = Due.street();
        due.is("1 one street is not another", other.look(0) + x.look(0), 2);
    }

    private static void house() {
        int[][] wrongs = {{0, 1, 1, 1}, {-1, 1, 1, 1}, {100, 1, 1, 1}, {MIN, 1, 1, 1},
            {MAX, 1, 1, 1}, {1, -1, 1, 1}, {1, 10000, 1, 1}, {1, MIN, 1, 1}, {1, MAX, 1, 1},
            {1, 1, -1, 1}, {1, 1, 11, 1}, {1, 1, MIN, 1}, {1, 1, MAX, 1}, {1, 1, 1, -1},
            {1, 1, 1, 100}, {1, 1, 1, MIN}, {1, 1, 1, MAX}};
        for (int[] w : wrongs) {
            DrinkingRoofs x = Due.street();
            due.leaves("2 can't be", x, () -> x.house(w[0], w[1], w[2], w[3]), NONE);
        }
        DrinkingRoofs x = new DrinkingRoofs();
        due.is("2 the least", x.house(1, 0, 0, 0), 0);
        due.is("2 the most", x.house(99, 9999, 10, 99), 1);
        for (int h = 2; h < 10; h++) {
            due.is("2 as they come", x.house(h, h, h, h), h);
        }
        due.is("2 ten", x.house(1, 1, 1, 1), NONE);
        due.is("2 ten stay", x.look(0), 10);
        due.row("2 the last as told", told(x, 9), 9, 9, 9, 9, NONE, 0, 0, 0, 0, 0, 0, 0, 0, 0);
        due.row("2 the most as told", told(x, 1), 99, 9999, 10, 99, NONE, 0, 0, 0, 0, 0, 0, 0, 0, 0);
        due.is("2 wrong among ten", x.house(0, 1, 1, 1), NONE);
    }

    private static String told(DrinkingRoofs x, int house) {
        StringBuilder all = new StringBuilder();
        for (int what = 0; what <= 13; what++) {
            all.append(' ').append(x.of(house, what));
        }
        return all.toString();
    }

    private static void next() {
        DrinkingRoofs ten = Due.many(10, 1, 1);
        for (int h = 0; h < 10; h++) {
            for (int on = -3; on <= 12; on++) {
                due.is("3 " + h + " on " + on, ten.next(h, on), on == NONE || on > h && on < 10);
            }
            due.is("3 the last that was so", ten.of(h, 4), h < 9 ? 9 : NONE);
        }
        int[][] wrongs = {{0, 0}, {0, 2}, {0, -2}, {0, MIN}, {0, MAX}, {1, 0}, {1, 1}, {1, 2},
            {2, NONE}, {2, 3}, {-1, NONE}, {-1, 0}, {-1, 1}, {MIN, 1}, {MAX, NONE}, {MAX, 1}};
        for (int[] w : wrongs) {
            DrinkingRoofs x = Due.street();
            due.refused("3 " + w[0] + " on " + w[1], x, () -> x.next(w[0], w[1]));
        }
        DrinkingRoofs x = Due.street();
        due.is("3 into the cistern", x.next(0, NONE), true);
        due.is("3 there it is", x.of(0, 4), NONE);
        due.is("3 the last too", x.next(1, NONE), true);
    }

    private static void tellHouse() {
        int[] most = {10, 9999, 10, 999, 999};
        int[] asked = {5, 1, 2, 6, 7};
        for (int what = 0; what < 5; what++) {
            int w = what;
            for (int v : new int[] {-1, MIN, most[w] + 1, MAX}) {
                DrinkingRoofs x = Due.street();
                due.refused("4 what " + w + " of " + v, x, () -> x.tell(0, w, v));
            }
            for (int h : new int[] {-1, 2, 10, MIN, MAX}) {
                DrinkingRoofs x = Due.street();
                due.refused("4 what " + w + " of house " + h, x, () -> x.tell(h, w, 1));
            }
            DrinkingRoofs x = Due.street();
            for (int v : new int[] {0, 1, most[w] - 1, most[w]}) {
                due.is("4 what " + w + " told " + v, x.tell(1, w, v), true);
                due.is("4 what " + w + " is " + v, x.of(1, asked[w]), v);
            }
        }
    }

    private static void tellStreet() {
        int[] most = {999999, 9};
        int[] asked = {3, 7};
        for (int i = 0; i < 2; i++) {
            int what = 5 + i;
            for (int v : new int[] {-1, MIN, most[i] + 1, MAX}) {
                DrinkingRoofs x = Due.street();
                due.refused("4 what " + what + " of " + v, x, () -> x.tell(0, what, v));
            }
            DrinkingRoofs x = Due.street();
            for (int h : new int[] {-1, 0, 2, 10, MIN, MAX}) {
                for (int v : new int[] {0, 1, most[i] - 1, most[i]}) {
                    due.is("4 what " + what + " with house " + h, x.tell(h, what, v), true);
                    due.is("4 what " + what + " is " + v, x.look(asked[i]), v);
                }
            }
        }
        for (int what : new int[] {-1, 7, 8, 10, MIN, MAX}) {
            DrinkingRoofs x = Due.street();
            due.refused("4 another what " + what, x, () -> x.tell(0, what, 0));
        }
    }

    private static void tellStays() {
        DrinkingRoofs x = Due.one(10, 100);
        x.tell(0, 3, 40);
        Due.rain(x, 9);
        x.comes(0);
        for (int barrel : new int[] {39, 0, 999}) {
            x.tell(0, 3, barrel);
            due.is("4 held stays", x.of(0, 8), 40);
        }
        for (int size : new int[] {49, 0, 999999}) {
            x.tell(0, 5, size);
            due.is("4 what the cistern has stays", x.look(2), 50);
            due.is("4 nothing ran off", x.look(4), 0);
        }
    }

    private static void storm() {
        for (int hours : new int[] {0, -1, 13, MIN, MAX}) {
            DrinkingRoofs x = Due.street();
            due.leaves("5 hours " + hours, x, () -> x.storm(hours), NONE);
        }
        DrinkingRoofs x = new DrinkingRoofs();
        due.is("5 the shortest", x.storm(1), 0);
        due.is("5 the longest", x.storm(12), 1);
        for (int s = 2; s < 10; s++) {
            due.is("5 as they come", x.storm(s + 1), s);
        }
        due.is("5 ten", x.storm(1), NONE);
        due.is("5 ten, and wrong", x.storm(0), NONE);
        due.is("5 ten stay", x.look(1), 10);
        due.is("5 the shortest, told", x.look(10), 1);
        due.is("5 the longest, told", x.look(11), 12);
        due.is("5 the last, told", x.look(19), 10);
        for (int t = 0; t < 12; t++) {
            due.is("5 rain of 0 at first", x.look(112 + t), 0);
        }
    }

    private static void fall() {
        int[][] wrongs = {{-1, 0, 1}, {1, 0, 1}, {MIN, 0, 1}, {MAX, 0, 1}, {0, -1, 1}, {0, 2, 1},
            {0, 11, 1}, {0, 12, 1}, {0, MIN, 1}, {0, MAX, 1}, {0, 0, -1}, {0, 0, 100}, {0, 0, MIN},
            {0, 0, MAX}};
        for (int[] w : wrongs) {
            for (int snow = 0; snow < 2; snow++) {
                boolean snows = snow == 1;
                DrinkingRoofs x = Due.street();
                due.refused("6 can't be", x, () -> x.fall(w[0], w[1], w[2], snows));
            }
        }
        DrinkingRoofs x = new DrinkingRoofs();
        for (int s = 0; s < 10; s++) {
            x.storm(12);
        }
        due.is("6 the first hour", x.fall(0, 0, 99, false), true);
        due.is("6 the last hour", x.fall(9, 11, 99, true), true);
        due.is("6 the first, told", x.look(100), 99);
        due.is("6 the last, told", x.look(219), 199);
        due.is("6 none beside it", x.look(101) + x.look(218), 0);
        due.is("6 snow of 0", x.fall(9, 11, 0, true), true);
        due.is("6 snow of 0, told", x.look(219), 100);
        due.is("6 rain again", x.fall(9, 11, 0, false), true);
        due.is("6 rain of 0, told", x.look(219), 0);
    }

    private static void feed() {
        DrinkingRoofs x = new DrinkingRoofs();
        for (int n = 20; n <= 400; n += 20) {
            due.is("7 so many", x.feed(0, -1, MIN, MAX, n), n);
        }
        due.is("7 more than 400", x.feed(1, 2, 3, 4, 5), NONE);
        due.is("7 nothing came", Due.hasTape(x, 400), true);
        x.end(381);
        due.is("7 one more than 400", x.feed(1, 2, 3, 4, 5), NONE);
        due.is("7 nothing came behind 381", Due.hasTape(x, 381), true);
        x.end(380);
        due.is("7 just 400", x.feed(1, 2, 3, 4, 5), 400);
        x.end(3);
        due.is("7 behind what is there", x.feed(1, 2, 3, 4, 5), 23);
    }

    private static void feedHighestFirst() {
        DrinkingRoofs x = new DrinkingRoofs();
        x.feed(0x70617920, 0x20202031, 0x2b0a0a20, 0x3220202b, 0x2020333b);
        due.is("7 pay 1+2+3; reads", x.text(), 1);
        x.feed(0x3b333220, 0, 0, 0, 0);
        x.end(1);
        x.feed(0, 0, 0, 0, 0);
        x.text();
        due.is("7 the highest is first", x.fault(1), 0);
        for (int at = 0; at < 20; at++) {
            int[] n = {0x20202020, 0x20202020, 0x20202020, 0x20202020, 0x20202020};
            n[at / 4] = n[at / 4] | 0x80 << 24 - 8 * (at % 4);
            x.feed(n[0], n[1], n[2], n[3], n[4]);
            x.text();
            due.is("7 byte " + at, x.fault(1), at);
        }
        // A refused feed leaves the bytes as they were.
        Due.feed(x, " ".repeat(394) + "pay 1;");
        x.feed(0, 0, 0, 0, 0);
        due.is("7 refused: the bytes stay", x.text(), 1);
        Due.feed(x, " ".repeat(384) + "pay 1;");
        x.feed(0, 0, 0, 0, 0);
        due.is("7 refused: none comes in part", x.text(), 1);
    }

    private static void end() {
        DrinkingRoofs x = new DrinkingRoofs();
        due.is("8 of nothing", x.end(0), true);
        due.is("8 nothing has no one", x.end(1), false);
        Due.feed(x, "pay 1;pay 2;        ");
        for (int n : new int[] {21, 400, MAX, -1, MIN}) {
            due.is("8 not so many " + n, x.end(n), false);
        }
        due.is("8 nothing changed", Due.hasTape(x, 20), true);
        due.is("8 all", x.end(20), true);
        due.is("8 still all", Due.hasTape(x, 20), true);
        due.is("8 the first", x.end(6), true);
        due.is("8 what is cut is gone", x.end(7), false);
        due.is("8 the first alone", x.text(), 1);
        Due.feed(x, "pay 1;pay 2;");
        due.is("8 none", x.end(0), true);
        due.is("8 none is empty", x.text(), 0);
        x.feed(0, 0, 0, 0, 0);
        x.end(0);
        due.is("8 fed behind 0", x.feed(0x20202020, 0x20202020, 0x20202020, 0x20202020, 0x20202020), 20);
        due.is("8 the cut bytes don't come back", x.text(), 0);
        for (int n = 0; n < 20; n++) {
            x.feed(0x20202020, 0x20202020, 0x20202020, 0x20202020, 0x20202020);
        }
        due.is("8 full", x.end(400), true);
        due.is("8 more than full", x.end(401), false);
        due.is("8 one less", x.end(399), true);
        due.is("8 no more 400", x.end(400), false);
    }

    private static void text() {
        DrinkingRoofs x = Due.many(2, 10, 50);
        x.tell(0, 1, 0);
        Due.rain(x, 5);
        due.is("9 a law", Due.law(x, "pay 7;"), 1);
        due.is("9 a fault", Due.law(x, "pay 8;pay 9"), NONE);
        due.is("9 the tape is empty then too", Due.hasTape(x, 0), true);
        due.is("9 the law stays", x.look(6), 1);
        x.comes(0);
        due.is("9 and is paid", x.of(0, 10), 7);
        due.is("9 a fault behind its first line", Due.law(x, "pay 8;oops"), NONE);
        x.comes(0);
        due.is("9 stays as it was", x.of(0, 10), 14);
        due.is("9 the tape is empty", x.text(), 0);
        due.is("9 no lines then", x.look(6), 0);
        x.comes(0);
        due.is("9 none is paid", x.of(0, 10), 14);
        due.is("9 sixteen lines", Due.law(x, "pay 1 when 1=2;".repeat(15) + "pay 4;"), 16);
        due.is("9 told", x.look(6), 16);
        x.comes(0);
        due.is("9 the last is paid", x.of(0, 10), 18);
        due.is("9 shorter than before", Due.law(x, "pay 1 when 1=2;"), 1);
        x.comes(0);
        due.is("9 nothing of the old is left", x.of(0, 10), 18);
        Due.law(x, "pay 2 when not 1=1;");
        Due.law(x, "pay 2 when 1=1;");
        x.comes(0);
        due.is("9 nor its not", x.of(0, 10), 20);
    }

    private static void longTexts() {
        DrinkingRoofs x = Due.many(2, 10, 50);
        x.tell(0, 1, 0);
        Due.rain(x, 5);
        String deep = "pay 3 when " + "1=2 or 1=1 and(".repeat(8) + "1=2 or 1=1 and 1+1*2=3"
            + ")".repeat(8) + ";";
        due.is("9 the deepest", Due.law(x, deep), 1);
        x.comes(0);
        due.is("9 the deepest is so", x.of(0, 10), 3);
        due.is("9 the deepest, another", Due.law(x, deep.replace("=3", "=4")), 1);
        x.comes(0);
        due.is("9 is not so", x.of(0, 10), 3);
        String ones = "pay 1" + "+1".repeat(197) + ";";
        due.is("9 a full tape", ones.length(), 400);
        due.is("9 of one line", Due.law(x, ones), 1);
        x.comes(0);
        due.is("9 is added whole", x.of(0, 10), 3 + 198);
        String cases = "pay 5 when 1=2" + "or 1=2".repeat(64) + ";";
        due.is("9 nearly full", cases.length(), 399);
        due.is("9 of many cases", Due.law(x, cases), 1);
        x.comes(0);
        due.is("9 none is so", x.of(0, 10), 201);
        Due.law(x, cases.substring(0, 397) + "1;");
        x.comes(0);
        due.is("9 the last is so", x.of(0, 10), 206);
    }

    private static void fault() {
        DrinkingRoofs x = new DrinkingRoofs();
        due.is("10 ahead of any text", x.fault(0), 0);
        due.is("10 no place", x.fault(1), NONE);
        Due.law(x, "  pay 1/0;");
        due.is("10 the fault", x.fault(0), 2);
        due.is("10 its place", x.fault(1), 8);
        for (int what : new int[] {-1, 2, 3, MIN, MAX}) {
            due.is("10 another what " + what, x.fault(what), NONE);
        }
        x.feed(0, 0, 0, 0, 0);
        x.end(0);
        due.is("10 stays behind feed and end", x.fault(0) * 100 + x.fault(1), 208);
        Due.law(x, "oops");
        due.is("10 the latest", x.fault(0), 1);
        due.is("10 the latest, place", x.fault(1), 0);
        x.text();
        due.is("10 none now", x.fault(0), 0);
        due.is("10 no place now", x.fault(1), NONE);
    }

    private static void comes() {
        for (int storm : new int[] {-1, 1, 9, 10, MIN, MAX}) {
            DrinkingRoofs x = Due.street();
            due.leaves("11 no storm " + storm, x, () -> x.comes(storm), NONE);
        }
        DrinkingRoofs x = new DrinkingRoofs();
        for (int s = 0; s < 10; s++) {
            Due.rain(x, s);
        }
        due.is("11 no houses", x.comes(9), 0);
        due.is("11 but it came", x.look(5), 1);
        due.is("11 and nothing fell", x.look(8), 0);
        x.house(1, 0, 0, 0);
        due.is("11 the first", x.comes(0), 0);
        due.is("11 the last", x.comes(9), 9);
        due.is("11 came", x.look(5), 3);
        due.is("11 fell", x.look(8), 9);
    }

    private static void of() {
        DrinkingRoofs x = Due.street();
        for (int h : new int[] {-1, 2, 9, 10, MIN, MAX}) {
            due.is("12 no house " + h, x.of(h, 0), NOTHING);
            due.is("12 no house, last what " + h, x.of(h, 13), NOTHING);
        }
        for (int what : new int[] {-1, 14, 15, MIN, MAX}) {
            due.is("12 another what " + what, x.of(0, what), NOTHING);
        }
        DrinkingRoofs y = Due.one(10, 20);
        due.is("12 nothing over ahead of any storm", y.of(0, 12), 0);
        Due.rain(y, 5, 4);
        Due.rain(y, 2);
        y.comes(0);
        due.is("12 over in all its hours", y.of(0, 12), 50);
        y.comes(1);
        due.is("12 the latest storm alone", y.of(0, 12), 0);
        due.is("12 wet in all", y.of(0, 11), 50);
        y.house(1, 0, 0, 0);
        due.is("12 that house came later", y.of(1, 12), 0);
        DrinkingRoofs z = Due.many(2, 1, 0);
        z.tell(1, 1, 9999);
        Due.rain(z, 1);
        Due.law(z, "pay 1;");
        z.comes(0);
        due.is("12 a coin of NONE is a coin", z.of(1, 10), -1);
    }

    private static void hour() {
        DrinkingRoofs x = Due.street();
        for (int bad : new int[] {-1, 2, 3, 11, 12, MIN, MAX}) {
            due.is("13 no house " + bad, x.hour(bad, 0, 0), NONE);
            due.is("13 no hour " + bad, x.hour(0, bad, 0), NONE);
        }
        for (int what : new int[] {-1, 3, MIN, MAX}) {
            due.is("13 another what " + what, x.hour(0, 0, what), NONE);
        }
        due.row("13 got", Due.hours(x, 0, 0), 120, 0);
        due.row("13 carried", Due.hours(x, 0, 1), 100, 0);
        due.row("13 over", Due.hours(x, 0, 2), 20, 0);
        x.house(1, 1, 1, 1);
        due.is("13 came later", x.hour(2, 0, 0), NONE);
        Due.rain(x, 1, 1, 1, 1, 1, 1, 1, 1, 1, 1, 1, 2);
        due.is("13 a storm that did not come", x.hour(0, 2, 0), NONE);
        x.comes(1);
        due.is("13 the last hour", x.hour(2, 11, 0), 2);
        due.is("13 none behind it", x.hour(2, 12, 0), NONE);
        x.comes(0);
        due.is("13 shorter again", x.hour(2, 2, 0), NONE);
        DrinkingRoofs y = new DrinkingRoofs();
        Due.rain(y, 1);
        y.comes(0);
        due.is("13 no houses then", y.hour(0, 0, 0), NONE);
        y.house(1, 1, 1, 1);
        due.is("13 none that was there", y.hour(0, 0, 0), NONE);
    }

    private static void blame() {
        DrinkingRoofs x = Due.street();
        for (int bad : new int[] {-1, 2, 10, MIN, MAX}) {
            for (int what = 0; what <= 2; what++) {
                due.is("14 w is none", x.blame(bad, 0, 0, what), NONE);
                due.is("14 no storm", x.blame(0, 0, bad, what), NONE);
            }
            due.is("14 u is none, above", x.blame(0, bad, 0, 0), NONE);
            due.is("14 u is none, below", x.blame(0, bad, 0, 1), NONE);
            // 120 fall and 10 melt of the latest storm's snow.
            due.is("14 u not asked", x.blame(0, bad, 0, 2), 30);
        }
        for (int what : new int[] {-1, 3, MIN, MAX}) {
            due.is("14 another what " + what, x.blame(0, 0, 0, what), NONE);
        }
        DrinkingRoofs y = Due.many(10, 10, 100);
        Due.rain(y, 5);
        for (int h = 0; h < 7; h++) {
            y.tell(h, 0, 10);
        }
        due.is("14 seven", y.blame(6, 6, 0, 0), 50);
        due.is("14 seven, left", y.blame(6, 6, 0, 2), 0);
        due.is("14 the last house", y.blame(9, 9, 0, 1), 1);
        y.tell(9, 0, 1);
        for (int what = 0; what <= 2; what++) {
            due.is("14 eight, what " + what, y.blame(6, 6, 0, what), NONE);
        }
    }

    private static void cleanings() {
        DrinkingRoofs x = Due.many(4, 10, 100);
        int s = Due.rain(x, 5);
        for (int bad : new int[] {-2, 1, 10, MIN, MAX}) {
            due.is("15 no first " + bad, x.cleanings(bad, NONE, NONE, NONE, 0), NONE);
            due.is("15 no second " + bad, x.cleanings(s, bad, NONE, NONE, 0), NONE);
            due.is("15 no third " + bad, x.cleanings(s, s, bad, NONE, 0), NONE);
            due.is("15 no fourth " + bad, x.cleanings(s, s, s, bad, 0), NONE);
            due.is("15 behind the first not asked", x.cleanings(s, NONE, bad, bad, 0), 0);
            due.is("15 behind the second not asked", x.cleanings(s, s, NONE, bad, 0), 0);
        }
        due.is("15 none at all", x.cleanings(NONE, s, s, s, 0), NONE);
        due.is("15 three and no more", x.cleanings(s, s, s, NONE, 0), 0);
        for (int what : new int[] {-1, 1, 9, 14, 20, MIN, MAX}) {
            due.is("15 another what " + what, x.cleanings(s, s, s, s, what), NONE);
        }
        int[] first = {s, s, s, s};
        for (int k = 1; k <= 4; k++) {
            for (int i = k; i < 4; i++) {
                first[i] = NONE;
            }
            for (int i = 0; i < 4; i++) {
                due.is("15 set " + i + " of " + k,
                    x.cleanings(first[0], first[1], first[2], first[3], 10 + i), i < k ? 0 : NONE);
            }
            for (int i = 0; i < 4; i++) {
                first[i] = s;
            }
        }
    }

    private static void gutters() {
        DrinkingRoofs x = Due.street();
        for (int storm : new int[] {-1, 1, 10, MIN, MAX}) {
            due.is("16 no storm " + storm, x.gutters(storm, 0), NONE);
            due.is("16 no storm, a house " + storm, x.gutters(storm, 10), NONE);
        }
        for (int what : new int[] {-1, 1, 9, 12, 19, 20, MIN, MIN + 9, MAX}) {
            due.is("16 another what " + what, x.gutters(0, what), NONE);
        }
        due.is("16 the first", x.gutters(0, 10), 120);
        due.is("16 the last", x.gutters(0, 11), 180);
        DrinkingRoofs y = new DrinkingRoofs();
        Due.rain(y, 9);
        due.is("16 no houses", y.gutters(0, 0), 0);
        due.is("16 no house's", y.gutters(0, 10), NONE);
    }

    private static void stains() {
        DrinkingRoofs x = Due.street();
        for (int set : new int[] {-1, 4, 5, 256, MIN, MAX}) {
            for (int what = 0; what <= 3; what++) {
                due.is("17 no set " + set, x.stains(set, what), -2);
            }
        }
        for (int what : new int[] {-1, 4, MIN, MAX}) {
            due.is("17 another what " + what, x.stains(0, what), -2);
        }
        DrinkingRoofs y = Due.many(8, 1, 9);
        Due.rain(y, 1);
        due.is("17 eight", y.stains(255, 0), 1);
        due.is("17 not in eight", y.stains(256, 0), -2);
        y.house(1, 9, 0, 0);
        due.is("17 nine", y.stains(255, 0), -2);
        due.is("17 nine, none wet", y.stains(0, 3), -2);
        y.house(1, 9, 0, 0);
        due.is("17 ten", y.stains(0, 0), -2);
        DrinkingRoofs z = new DrinkingRoofs();
        Due.rain(z, 1);
        Due.rain(z, 1);
        due.is("17 no houses, no stains", z.stains(0, 0), 2);
        due.is("17 no houses, set", z.stains(0, 2), 0);
        due.is("17 no houses, a stain", z.stains(1, 0), -2);
    }

    private static void drain() {
        DrinkingRoofs x = Due.chain(10, 1, 9);
        int s = Due.rain(x, 1);
        for (int storm : new int[] {-1, 1, 10, MIN, MAX}) {
            due.is("18 no storm " + storm, x.drain(storm), NONE);
        }
        // 10 come to the last, one more than it carries: each drain but its own takes enough away.
        due.is("18 the least number", x.drain(s), 0);
        x.tell(0, 1, 0);
        x.tell(9, 1, 8);
        due.is("18 but one that carries nothing", x.drain(s), 1);
        x.tell(9, 1, 0);
        due.is("18 the last but one", x.drain(s), 8);
        DrinkingRoofs y = new DrinkingRoofs();
        Due.rain(y, 1);
        due.is("18 no houses", y.drain(0), NONE);
        y.house(1, 0, 0, 0);
        due.is("18 one house", y.drain(0), NONE);
    }

    private static void added() {
        DrinkingRoofs x = Due.street();
        int[][] wrongs = {{-1, 1, 1, 0}, {3, 1, 1, 0}, {MIN, 1, 1, 0}, {MAX, 1, 1, 0}, {0, 0, 1, 0},
            {0, -1, 1, 0}, {0, 100, 1, 0}, {0, MIN, 1, 0}, {0, MAX, 1, 0}, {0, 1, -1, 0},
            {0, 1, 10000, 0}, {0, 1, MIN, 0}, {0, 1, MAX, 0}, {0, 1, 1, -1}, {0, 1, 1, 1},
            {0, 1, 1, MIN}, {0, 1, 1, MAX}};
        for (int[] w : wrongs) {
            due.is("19 can't be", x.added(w[0], w[1], w[2], w[3]), NOTHING);
        }
        DrinkingRoofs y = Due.many(9, 1, 9999);
        Due.rain(y, 99);
        for (int place = 0; place <= 9; place++) {
            due.is("19 the least", y.added(place, 1, 0, 0), 99);
            due.is("19 the most", y.added(place, 99, 9999, 0), 0);
        }
        due.is("19 no place", y.added(10, 1, 0, 0), NOTHING);
        y.house(1, 9999, 0, 0);
        for (int place = 0; place <= 10; place++) {
            due.is("19 ten houses", y.added(place, 1, 0, 0), NOTHING);
        }
    }

    private static void image() {
        DrinkingRoofs none = Due.street();
        due.refused("20 none", none, () -> none.image(false));
        due.leaves("20 taken", none, () -> none.image(true) ? 1 : 0, 1);
        DrinkingRoofs x = Due.street();
        String before = Due.seen(x);
        x.image(true);
        for (int round = 0; round < 2; round++) {
            x.house(9, 9, 9, 9);
            x.next(0, 2);
            x.tell(0, 0, 9);
            x.tell(1, 1, 999);
            x.tell(0, 2, 7);
            x.tell(1, 3, 3);
            x.tell(0, 4, 3);
            x.tell(0, 5, 3);
            x.tell(0, 6, 3);
            x.fall(0, 0, 77, true);
            Due.rain(x, 9, 9, 9);
            Due.law(x, "pay 5;pay 5;pay 5;");
            x.comes(0);
            x.comes(1);
            due.is("20 gone back", x.image(false), true);
            due.is("20 all as it was, time " + round, Due.seen(x).equals(before), true);
            x.house(9, 9, 9, 9);
            due.is("20 that house came later again", x.hour(2, 0, 0), NONE);
            x.image(false);
        }
        DrinkingRoofs y = Due.street();
        due.is("20 and goes on as it was", x.comes(0), y.comes(0));
        due.is("20 the law pays as it did", x.of(1, 10), y.of(1, 10));
    }

    private static void imageOfNothing() {
        DrinkingRoofs x = new DrinkingRoofs();
        due.is("20 of nothing", x.image(true), true);
        for (int h = 0; h < 10; h++) {
            x.house(9, h % 2 * 999, 9, 9);
            x.tell(h, 0, 5);
            x.tell(h, 3, 5);
            x.tell(h, 4, 1);
        }
        for (int s = 0; s < 10; s++) {
            Due.rain(x, 9, -9);
        }
        Due.law(x, "pay 3;");
        x.comes(0);
        due.is("20 back to nothing", x.image(false), true);
        due.is("20 as new", Due.seen(x).equals(Due.seen(new DrinkingRoofs())), true);
        due.is("20 no hour is left", x.hour(0, 0, 0), NONE);
        due.is("20 a house again", x.house(1, 2, 3, 4), 0);
        due.row("20 that is new", told(x, 0), 1, 2, 3, 4, NONE, 0, 0, 0, 0, 0, 0, 0, 0, 0);
        due.is("20 a storm again", x.storm(2), 0);
        due.is("20 of rain", x.look(100), 0);
        due.is("20 of nothing", x.look(101), 0);
        due.is("20 back again", x.image(false), true);
        for (int h = 0; h < 10; h++) {
            due.is("20 ten more", x.house(1, 1, 1, 1), h);
            due.row("20 each new", told(x, h), 1, 1, 1, 1, NONE, 0, 0, 0, 0, 0, 0, 0, 0, 0);
        }
    }

    private static void imageOfFigures() {
        DrinkingRoofs x = Due.many(3, 10, 50);
        x.tell(1, 1, 0);
        x.tell(0, 5, 60);
        Due.law(x, "pay 3;");
        Due.rain(x, 5);
        Due.rain(x, 9);
        x.comes(0);
        x.comes(0);
        x.image(true);
        x.comes(1);
        x.comes(0);
        due.row("20 dry storms then", Due.each(x, 13), 1, 0, 1);
        x.image(false);
        due.row("20 dry storms", Due.each(x, 13), 2, 0, 2);
        due.row("20 coins", Due.each(x, 10), -6, 12, -6);
        due.row("20 wet in all", Due.each(x, 11), 0, 100, 0);
        due.row("20 over in the latest", Due.each(x, 12), 0, 50, 0);
        due.is("20 the cistern", x.look(2), 60);
        due.is("20 ran off", x.look(4), 140);
        due.is("20 fell", x.look(8), 300);
        due.is("20 came", x.look(5), 2);
    }

    /** Houses that are gone with the image are no part of what is thought. */
    private static void imageForgetsHouses() {
        DrinkingRoofs x = Due.one(10, 100);
        Due.rain(x, 10);
        x.image(true);
        x.house(10, 200, 0, 7);
        x.next(0, 1);
        x.tell(1, 0, 10);
        due.is("20 two houses, cleanings", x.cleanings(0, NONE, NONE, NONE, 10), 2);
        due.is("20 two houses, price", x.gutters(0, 0), 0);
        due.is("20 two houses, a drain", x.drain(0), 0);
        due.is("20 two houses, stains", x.stains(2, 0), 1);
        x.image(false);
        due.is("20 one house, cleanings", x.cleanings(0, NONE, NONE, NONE, 0), 0);
        due.is("20 one house, price", x.gutters(0, 0), 0);
        due.is("20 one house, no drain", x.drain(0), NONE);
        due.is("20 one house, no such stains", x.stains(2, 0), -2);
        due.is("20 one house, added at the end", x.added(1, 1, 9, 0), 1);
    }

    private static void imageTakenAgain() {
        DrinkingRoofs x = Due.street();
        x.image(true);
        x.comes(0);
        x.image(true);
        String second = Due.seen(x);
        x.comes(0);
        x.image(false);
        due.is("20 the later image", Due.seen(x).equals(second), true);
        x.image(true);
        x.image(false);
        due.is("20 of the image itself", Due.seen(x).equals(second), true);
    }

    private static void imageLeavesTapeAndFault() {
        DrinkingRoofs x = Due.street();
        Due.feed(x, "pay 8;");
        x.image(true);
        due.is("20 the tape is there when it is taken", x.text(), 1);
        due.is("20 the law goes back", x.image(false) ? x.look(6) : 0, 1);
        due.is("20 the tape does not come back", Due.hasTape(x, 0), true);
        Due.feed(x, "pay 1;pay 2;");
        x.image(false);
        due.is("20 the tape does not go", x.text(), 2);
        Due.law(x, "oops");
        x.image(false);
        due.is("20 the fault does not go", x.fault(0), 1);
        due.is("20 nor its place", x.fault(1), 0);
        x.image(true);
        x.text();
        x.image(false);
        due.is("20 nor comes it back", x.fault(0), 0);
        due.is("20 nor its place", x.fault(1), NONE);
    }

    private static void look() {
        DrinkingRoofs x = Due.street();
        for (int what : new int[] {-1, 9, 11, 19, 20, 99, 102, 111, 112, 219, 220, MIN, MAX}) {
            due.is("21 another what " + what, x.look(what), NONE);
        }
        due.is("21 hours of the first", x.look(10), 2);
        due.is("21 its first", x.look(100), 12);
        due.is("21 its last", x.look(101), 103);
        DrinkingRoofs y = new DrinkingRoofs();
        for (int s = 0; s < 10; s++) {
            y.storm(12 - s);
            y.fall(s, 11 - s, 50 + s, s % 2 == 1);
        }
        for (int s = 0; s < 10; s++) {
            due.is("21 hours of " + s, y.look(10 + s), 12 - s);
            for (int t = 0; t < 12; t++) {
                int last = 50 + s + s % 2 * 100;
                due.is("21 hour " + t + " of " + s, y.look(100 + 12 * s + t),
                    t < 11 - s ? 0 : t == 11 - s ? last : NONE);
            }
        }
        due.is("21 no eleventh storm", y.look(20), NONE);
        due.is("21 no hour of it", y.look(220), NONE);
    }

    /** Numbers at all ends of every range, in every place of every call: answers come, none throws. */
    private static void allEnds() {
        int[] ends = {MIN, -1, 0, 1, 2, 10, 99, 9999, MAX};
        for (int a : ends) {
            for (int b : ends) {
                DrinkingRoofs x = Due.street();
                DrinkingRoofs ten = Due.many(10, 99, 50);
                Due.rain(ten, 99, -99);
                for (int c : ends) {
                    for (DrinkingRoofs one : new DrinkingRoofs[] {x, ten, new DrinkingRoofs()}) {
                        ask(one, a, b, c);
                    }
                }
            }
        }
    }

    private static void ask(DrinkingRoofs x, int a, int b, int c) {
        LongSupplier[] calls = {
            () -> x.stains(a, b) + x.gutters(a, b) + x.look(a) + x.fault(a) + x.of(a, b),
            () -> x.hour(a, b, c) + x.drain(a) + x.added(a, b, c, 0) + x.added(0, a, b, c),
            () -> x.blame(a, b, c, 0) + x.blame(0, a, b, c) + x.cleanings(a, b, c, 0, 0),
            () -> x.cleanings(0, a, b, c, 0) + x.cleanings(0, 0, a, b, c) + x.comes(a),
            () -> x.feed(a, b, c, a, b) + x.text() + x.storm(a) + x.house(a, b, c, 0),
            () -> (x.next(a, b) ? 1 : 0) + (x.tell(a, b, c) ? 1 : 0) + (x.end(a) ? 1 : 0),
            () -> (x.fall(a, b, c, true) ? 1 : 0) + (x.image(c > 0) ? 1 : 0)};
        for (int i = 0; i < calls.length; i++) {
            try {
                calls[i].getAsLong();
            } catch (RuntimeException thrown) {
                due.is("no call throws: " + i + " of " + a + ", " + b + ", " + c + thrown, 1, 0);
            }
        }
    }

    public static void main(String[] args) {
        newIsEmpty();
        newThinksOfNothing();
        house();
        next();
        tellHouse();
        tellStreet();
        tellStays();
        storm();
        fall();
        feed();
        feedHighestFirst();
        end();
        text();
        longTexts();
        fault();
        comes();
        of();
        hour();
        blame();
        cleanings();
        gutters();
        stains();
        drain();
        added();
        image();
        imageOfNothing();
        imageOfFigures();
        imageForgetsHouses();
        imageTakenAgain();
        imageLeavesTapeAndFault();
        look();
        allEnds();
        due.end();
    }
}
