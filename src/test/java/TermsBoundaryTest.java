/** The boundary cases that the document's "Terms" name, parts 1 to 4, each with a test of its own. */
public final class TermsBoundaryTest {
    private static final int NONE = Due.NONE;
    private static final int NOTHING = Due.NOTHING;
    private static final Due due = new Due();

    // Part 1 and 2: houses, the cistern, and how a storm comes.

    private static void fallTimesArea() {
        int[] carries = {9999, 9801, 9800, 0};
        int[] over = {0, 0, 1, 9801};
        for (int i = 0; i < carries.length; i++) {
            DrinkingRoofs x = Due.one(99, carries[i]);
            Due.rain(x, 99);
            due.is("the most that falls on a roof of " + carries[i], x.comes(0), over[i]);
            due.row("it is got", Due.hours(x, 0, 0), 9801);
        }
        DrinkingRoofs x = Due.one(1, 0);
        Due.rain(x, 0, 1);
        due.is("the least that falls", x.comes(0), 1);
        due.row("nothing, then one", Due.hours(x, 0, 2), 0, 1);
    }

    private static String melted(int thaw, int... falls) {
        DrinkingRoofs x = Due.one(10, 9999);
        x.tell(0, 6, thaw);
        Due.rain(x, falls);
        x.comes(0);
        return Due.hours(x, 0, 0) + " " + x.of(0, 9);
    }

    private static void snowMelts() {
        due.row("no thaw", melted(0, -3, 0, 0), 0, 0, 0, 30);
        due.row("thaw to the last", melted(1, -3, 0, 0, 0, 0), 0, 10, 10, 10, 0, 0);
        due.row("thaw with some left", melted(1, -3, 0), 0, 10, 20);
        due.row("all, as there is less", melted(2, -3, 0, 0, 0), 0, 20, 10, 0, 0);
        due.row("just all", melted(3, -3, 0, 0), 0, 30, 0, 0);
        due.row("all of little", melted(9, -3, 0, 0), 0, 30, 0, 0);
        due.row("with rain", melted(1, -3, 2), 0, 30, 20);
        due.row("nothing melts while it snows", melted(9, -3, -1, 0), 0, 0, 40, 0);
        due.row("no snow, nothing melts", melted(9, 0, 1), 0, 10, 0);
        DrinkingRoofs x = Due.one(10, 9999);
        Due.rain(x, -3, 0, 0);
        x.fall(0, 1, 0, true);
        x.comes(0);
        due.row("snow of 0 is snow", Due.hours(x, 0, 0), 0, 0, 10);
    }

    private static String kept(int barrel, int... falls) {
        DrinkingRoofs x = Due.one(10, 9999);
        x.tell(0, 3, barrel);
        Due.rain(x, falls);
        x.comes(0);
        return Due.hours(x, 0, 0) + " " + x.of(0, 8);
    }

    private static void barrelTakes() {
        due.row("no barrel", kept(0, 5), 50, 0);
        due.row("less than its room", kept(50, 4), 0, 40);
        due.row("just its room", kept(50, 5), 0, 50);
        due.row("more than its room", kept(51, 6), 9, 51);
        due.row("just the room that is left", kept(50, 4, 1), 0, 0, 50);
        due.row("more than is left", kept(50, 4, 2), 0, 10, 50);
        due.row("full", kept(50, 5, 3), 0, 30, 50);
        due.row("the biggest", kept(999, 99, 1), 0, 1, 999);
        DrinkingRoofs x = Due.chain(2, 1, 9999);
        x.tell(1, 3, 5);
        Due.rain(x, 3);
        x.comes(0);
        due.row("what comes from above too", Due.hours(x, 1, 0), 1);
    }

    private static void barrelMadeSmaller() {
        DrinkingRoofs x = held50(0);
        x.tell(0, 3, 10);
        Due.rain(x, 3);
        x.comes(1);
        due.row("no room below 0", Due.hours(x, 0, 0), 30);
        due.is("held stays", x.of(0, 8), 50);
        x.tell(0, 4, 45);
        Due.rain(x, 0);
        x.comes(2);
        due.row("more than the barrel is let go", Due.hours(x, 0, 0), 45);
        x.tell(0, 3, 25);
        x.comes(1);
        due.row("room again", Due.hours(x, 0, 0), 10);
        due.is("held full", x.of(0, 8), 25);
    }

    /** A house of area 10 that has held 50 in its barrel of 50. */
    private static DrinkingRoofs held50(int let) {
        DrinkingRoofs x = Due.one(10, 9999);
        x.tell(0, 3, 50);
        Due.rain(x, 5);
        x.comes(0);
        x.tell(0, 4, let);
        return x;
    }

    private static String letGo(int let, int... falls) {
        DrinkingRoofs x = held50(let);
        Due.rain(x, falls);
        x.comes(1);
        return Due.hours(x, 0, 0) + " " + x.of(0, 8);
    }

    private static void barrelLetsGo() {
        due.row("none is let go", letGo(0, 0, 0), 0, 0, 50);
        due.row("all, as there is less", letGo(20, 0, 0, 0, 0), 20, 20, 10, 0, 0);
        due.row("one is left", letGo(49, 0), 49, 1);
        due.row("just all", letGo(50, 0, 0), 50, 0, 0);
        due.row("the most", letGo(999, 0, 0), 50, 0, 0);
        due.row("while it snows", letGo(20, -1), 20, 30);
        due.row("not while it rains", letGo(20, 1), 10, 50);
        due.row("not while it melts", letGo(20, -1, 0, 0), 20, 0, 20, 20);
        DrinkingRoofs x = held50(20);
        x.tell(0, 3, 60);
        Due.rain(x, 1, 0);
        x.comes(1);
        due.row("not if the barrel takes all", Due.hours(x, 0, 0), 0, 20);
        x = held50(20);
        x.tell(0, 6, 0);
        Due.rain(x, -1, 0);
        x.comes(1);
        due.row("if none of the snow melts", Due.hours(x, 0, 0), 20, 20);
    }

    private static void barrelHearsFromAbove() {
        for (int clog = 0; clog <= 10; clog += 10) {
            DrinkingRoofs x = Due.chain(2, 10, 9999);
            x.tell(0, 3, 10);
            x.tell(1, 3, 50);
            Due.rain(x, 5);
            x.comes(0);
            x.tell(0, 4, 4);
            x.tell(1, 4, 20);
            x.tell(0, 0, clog);
            Due.rain(x, 0, 0, 0, 0);
            x.comes(1);
            due.row("above", Due.hours(x, 0, 0), 4, 4, 2, 0);
            if (clog == 0) {
                due.row("as long as it comes from above", Due.hours(x, 1, 0), 4, 4, 2, 20);
            } else {
                due.row("nothing comes of a clogged gutter", Due.hours(x, 1, 0), 20, 20, 10, 0);
            }
        }
    }

    private static void letGoRunsOver() {
        DrinkingRoofs x = held50(20);
        x.tell(0, 1, 15);
        Due.rain(x, 0);
        due.is("what was let go runs over", x.comes(1), 5);
        due.row("carried", Due.hours(x, 0, 1), 15);
        due.is("and is held no more", x.of(0, 8), 30);
        x.tell(0, 1, 20);
        due.is("just carried", x.comes(1), 0);
    }

    private static int carriedAt(int carries, int clog) {
        DrinkingRoofs x = Due.chain(2, 99, 9999);
        x.tell(1, 1, carries);
        x.tell(1, 0, clog);
        Due.rain(x, 99);
        due.is("over", x.comes(0), 2 * 9801 - x.hour(1, 0, 1));
        return x.hour(1, 0, 1);
    }

    private static void quotientsGoDownwards() {
        int[] ofNine = {9, 8, 7, 6, 5, 4, 3, 2, 1, 0, 0};
        for (int clog = 0; clog <= 10; clog++) {
            due.is("9 clogged by " + clog, carriedAt(9, clog), ofNine[clog]);
            due.is("10 clogged by " + clog, carriedAt(10, clog), 10 - clog);
            due.is("0 clogged by " + clog, carriedAt(0, clog), 0);
        }
        due.is("the most", carriedAt(9999, 0), 9999);
        due.is("the most, half", carriedAt(9999, 5), 4999);
        due.is("the most, a tenth", carriedAt(9999, 9), 999);
        due.is("the most, none", carriedAt(9999, 10), 0);
    }

    private static void gutterIsJustFull() {
        DrinkingRoofs x = Due.one(10, 100);
        x.tell(0, 0, 5);
        Due.rain(x, 5);
        due.is("just what it carries", x.comes(0), 0);
        x.tell(0, 1, 99);
        due.is("one more", x.comes(0), 1);
        due.is("wet in all", x.of(0, 11), 1);
    }

    private static void sameHourDownTheStreet() {
        DrinkingRoofs x = Due.chain(10, 1, 9999);
        Due.rain(x, 1, 0);
        due.is("none over", x.comes(0), 0);
        for (int h = 0; h < 10; h++) {
            due.row("from all above, and not an hour later", Due.hours(x, h, 0), h + 1, 0);
        }
        due.is("all in the cistern", x.look(2), 10);
        DrinkingRoofs far = Due.many(10, 1, 9999);
        far.next(0, 9);
        Due.rain(far, 1);
        far.comes(0);
        due.is("past all others", far.hour(9, 0, 0), 2);
        due.is("not on them", far.hour(8, 0, 0), 1);
    }

    private static String stored(int size) {
        DrinkingRoofs x = Due.one(10, 9999);
        x.tell(0, 5, size);
        Due.rain(x, 5);
        x.comes(0);
        return " " + x.look(2) + " " + x.look(4);
    }

    private static void cisternIsFull() {
        due.row("no cistern", stored(0), 0, 50);
        due.row("one too small", stored(49), 49, 1);
        due.row("just full", stored(50), 50, 0);
        due.row("one left", stored(51), 50, 0);
        DrinkingRoofs x = Due.one(10, 40);
        x.tell(0, 5, 70);
        Due.rain(x, 5);
        x.comes(0);
        due.row("what runs over does not come to it", " " + x.look(2) + " " + x.look(4), 40, 0);
        x.comes(0);
        due.row("full the second time", " " + x.look(2) + " " + x.look(4), 70, 10);
        x.tell(0, 5, 20);
        x.comes(0);
        due.row("smaller than what it has", " " + x.look(2) + " " + x.look(4), 70, 50);
        x.tell(0, 5, 71);
        x.comes(0);
        due.row("room for one", " " + x.look(2) + " " + x.look(4), 71, 89);
    }

    private static void leavesClog() {
        int[][] rows = {{0, 0, 0}, {0, 10, 10}, {9, 1, 10}, {9, 2, 10}, {10, 10, 10}, {3, 4, 7}};
        for (int[] row : rows) {
            DrinkingRoofs x = Due.one(10, 100);
            x.tell(0, 0, row[0]);
            x.tell(0, 2, row[1]);
            Due.rain(x, 10);
            due.is("the clog ahead of the leaves counts", x.comes(0), 10 * row[0]);
            due.is("clog " + row[0] + " and leaves " + row[1], x.of(0, 5), row[2]);
        }
    }

    private static void dryStorms() {
        DrinkingRoofs x = Due.one(10, 50);
        Due.rain(x, 5);
        Due.rain(x, 6, 0);
        int[] storms = {0, 0, 1, 1, 0};
        int[] dry = {1, 2, 0, 0, 1};
        for (int i = 0; i < storms.length; i++) {
            x.comes(storms[i]);
            due.is("dry storms behind storm " + i, x.of(0, 13), dry[i]);
        }
        x.house(10, 50, 0, 0);
        due.is("a new house has none", x.of(1, 13), 0);
        x.comes(0);
        due.row("then each its own", Due.each(x, 13), 2, 1);
    }

    private static void whoPays() {
        DrinkingRoofs x = Due.one(10, 49);
        Due.rain(x, 5);
        Due.law(x, "pay 7;");
        x.comes(0);
        due.row("one house alone pays none", Due.each(x, 10), 0);
        for (int h = 1; h < 10; h++) {
            x.house(1, 9, 0, 0);
        }
        x.comes(0);
        due.row("wet by one: all others pay", Due.each(x, 10), 63, -7, -7, -7, -7, -7, -7, -7, -7, -7);
        x.tell(0, 1, 50);
        x.comes(0);
        due.is("not wet: none pays", x.of(0, 10), 63);
        DrinkingRoofs all = Due.many(3, 1, 0);
        Due.rain(all, 1);
        Due.law(all, "pay above*3+1;");
        all.comes(0);
        due.row("all wet: each pays each", Due.each(all, 10), -6, 0, 6);
    }

    /** The most that 512 calls can bring together stays a number. */
    private static void mostInAllCalls() {
        DrinkingRoofs x = Due.many(10, 99, 9999);
        x.tell(9, 1, 0);
        int s = Due.rain(x, 99, 99, 99, 99, 99, 99, 99, 99, 99, 99, 99, 99);
        Due.law(x, "pay 9999;");
        for (int i = 0; i < 470; i++) {
            x.comes(s);
        }
        due.is("what fell in all", x.look(8), 470 * 1176120);
        due.is("the cistern is full", x.look(2), 999999);
        due.is("what ran off in all", x.look(4), 470 * 9 * 117612 - 999999);
        due.is("wet in all", x.of(9, 11), 470 * 117612);
        due.is("coins above 0", x.of(9, 10), 470 * 9 * 9999);
        due.is("coins below 0", x.of(0, 10), -470 * 9999);
        due.is("dry storms", x.of(0, 13), 470);
        due.is("storms", x.look(5), 470);
    }

    // Part 3: the law.

    /** What house 1 pays to house 0, over which 50 run; it empties on house 1. */
    private static int paid(String text) {
        DrinkingRoofs x = new DrinkingRoofs();
        x.house(10, 0, 0, 0);
        x.house(20, 9999, 0, 0);
        x.next(0, 1);
        Due.rain(x, 5);
        due.is("text " + text, Due.law(x, text) > 0, true);
        x.comes(0);
        due.is("what one pays the other gets", x.of(0, 10), -x.of(1, 10));
        return -x.of(1, 10);
    }

    private static void payIsHeld() {
        due.is("below 0", paid("pay 0-1;"), 0);
        due.is("0", paid("pay 0;"), 0);
        due.is("1", paid("pay 1;"), 1);
        due.is("the most", paid("pay 9999;"), 9999);
        due.is("above the most", paid("pay 9999+1;"), 9999);
        due.is("far below", paid("pay 0-9999*9999;"), 0);
        due.is("far above", paid("pay 9999*9999;"), 9999);
    }

    private static void intsWrap() {
        due.is("2 to the 32nd is 0", paid("pay 4096*4096*256+7;"), 7);
        due.is("2 to the 31st is below 0", paid("pay 7 when 4096*4096*128<0;"), 7);
        due.is("and pays nothing", paid("pay 4096*4096*128;"), 0);
        due.is("one less is above", paid("pay 7 when 4096*4096*128-1>0;"), 7);
        due.is("and pays the most", paid("pay 4096*4096*128-1;"), 9999);
        due.is("the least int less one", paid("pay 7 when 0-4096*4096*128-1>0;"), 7);
        due.is("the least int in parts", paid("pay 4096*4096*128/4096/4096+130;"), 2);
        due.is("the least int by 1", paid("pay 7 when 4096*4096*128/1<0;"), 7);
        due.is("less of the least int", paid("pay 7 when 0-4096*4096*128=4096*4096*128;"), 7);
    }

    private static void partsGoTowards0() {
        due.is("above 0", paid("pay 7/2;"), 3);
        due.is("less than 1", paid("pay 1/2;"), 0);
        due.is("by 1", paid("pay 7/1;"), 7);
        due.is("by the most", paid("pay 9999/9999;"), 1);
        due.is("0 parted", paid("pay 0/3+2;"), 2);
        // 9999*9999*30 wraps to -1295567266.
        due.is("below 0", paid("pay 7 when 9999*9999*30/1000=0-1295*1000-567;"), 7);
        due.is("a little below 0", paid("pay 9999*9999*30/9999/9999/15+5;"), 5);
        due.is("0 in front of a number", paid("pay 0007/0002;"), 3);
    }

    private static void whichLine() {
        due.is("no line is so", paid("pay 1 when 1=2;pay 2 when 1>2;"), 0);
        due.is("the first that is so", paid("pay 1 when 1=2;pay 2 when 1=1;pay 3 when 1=1;"), 2);
        due.is("one without a when", paid("pay 1 when 1=2;pay 2;pay 3;"), 2);
        StringBuilder lines = new StringBuilder();
        for (int i = 1; i < 16; i++) {
            lines.append("pay ").append(i).append(" when 1>1;");
        }
        due.is("the sixteenth", paid(lines + "pay 16;"), 16);
        due.is("equal is not less", paid("pay 1 when 2<2;pay 5;"), 5);
        due.is("equal is not more", paid("pay 1 when 2>2;pay 5;"), 5);
        due.is("one less", paid("pay 1 when 1<2;pay 5;"), 1);
        due.is("one more", paid("pay 1 when 2>1;pay 5;"), 1);
    }

    private static void whatIsSo() {
        due.is("not of what is so", paid("pay 1 when not 1=1;pay 5;"), 5);
        due.is("not of what is not so", paid("pay 1 when not 1=2;pay 5;"), 1);
        due.is("eight nots", paid("pay 1 when " + "not ".repeat(8) + "2>1;pay 5;"), 1);
        due.is("seven nots", paid("pay 1 when " + "not ".repeat(7) + "1<2;pay 5;"), 5);
        due.is("not binds the nearest", paid("pay 1 when not 1=2 or 1=1;pay 5;"), 1);
        due.is("not of a bracket", paid("pay 1 when not (1=2 or 1=1);pay 5;"), 5);
        due.is("not behind and", paid("pay 1 when 1=1 and not 1=2 and not 1>2;pay 5;"), 1);
        due.is("not of both sides", paid("pay 1 when not 0+1=1*1 or 1=2;pay 5;"), 5);
        due.is("all of three", paid("pay 1 when 1<2 and 1=1 and 2>1;pay 5;"), 1);
        due.is("not all of three", paid("pay 1 when 1<2 and 1=1 and 1>1;pay 5;"), 5);
        due.is("one of three", paid("pay 1 when 1>2 or 1=2 or 1<2;pay 5;"), 1);
        due.is("and ahead of or", paid("pay 1 when 1=1 or 1=2 and 1=2;pay 5;"), 1);
        due.is("or ahead of and", paid("pay 1 when 1=2 and 1=2 or 1=1;pay 5;"), 1);
        due.is("brackets ahead of both", paid("pay 1 when (1=1 or 1=2)and 1=2;pay 5;"), 5);
        due.is("brackets behind and", paid("pay 1 when 1=2 and(1=2 or 1=1);pay 5;"), 5);
    }

    private static void sumsFromTheLeft() {
        due.is("less, less", paid("pay 9-4-3;"), 2);
        due.is("less, more", paid("pay 9-4+3;"), 8);
        due.is("more, less", paid("pay 9+4-3;"), 10);
        due.is("parts, parts", paid("pay 100/5/2;"), 10);
        due.is("parts, times", paid("pay 9/2*2;"), 8);
        due.is("times, parts", paid("pay 9*2/4;"), 4);
        due.is("times behind more", paid("pay 2+3*4;"), 14);
        due.is("times ahead of more", paid("pay 2*3+4;"), 10);
        due.is("parts behind less", paid("pay 20-9/2;"), 16);
        due.is("times behind less", paid("pay 20-2*3-1;"), 13);
        for (String sign : new String[] {"+0", "-0", "*1", "/1"}) {
            due.is("ahead of < " + sign, paid("pay 1 when 3" + sign + "<2;pay 5;"), 5);
            due.is("behind < " + sign, paid("pay 1 when 3<2" + sign + ";pay 5;"), 5);
            due.is("ahead of = " + sign, paid("pay 1 when 2" + sign + "=2;pay 5;"), 1);
            due.is("behind = " + sign, paid("pay 1 when 2=2" + sign + ";pay 5;"), 1);
            due.is("ahead of > " + sign, paid("pay 1 when 2" + sign + ">3;pay 5;"), 5);
            due.is("behind > " + sign, paid("pay 1 when 2>3" + sign + ";pay 5;"), 5);
        }
        due.is("a sum behind <", paid("pay 1 when 3<2-1;pay 5;"), 5);
        due.is("a sum behind =", paid("pay 1 when 3=1+2;pay 5;"), 1);
        due.is("a sum behind >", paid("pay 1 when 2>1+2;pay 5;"), 5);
        due.is("sums on both sides", paid("pay 1 when 1+2*3=9-4/2 and 2-1<1*3 and 4/2>3-2;pay 5;"), 1);
    }

    /** What a house pays to house 4, which alone of ten is wet: 990 twice, then 99 twice. */
    private static int paidBy(int u, String text) {
        DrinkingRoofs x = new DrinkingRoofs();
        for (int h = 0; h < 10; h++) {
            x.house(h == 0 ? 1 : 99, h == 4 ? 0 : 9999, 10, 0);
            x.tell(h, 0, h);
        }
        x.next(3, 4);
        x.next(4, 5);
        x.tell(9, 3, 999);
        x.tell(9, 4, 999);
        Due.rain(x, 10, 0, 1);
        Due.law(x, text);
        due.is("over at house 4", x.comes(0), x.of(4, 12));
        return -x.of(u, 10);
    }

    private static void measures() {
        due.is("wet in all its hours", paidBy(0, "pay wet;"), 2178);
        due.is("no clog", paidBy(0, "pay clog;"), 0);
        due.is("clog ahead of the leaves", paidBy(9, "pay clog;"), 9);
        due.is("own clog of w", paidBy(9, "pay own;"), 4);
        due.is("near: empties on w", paidBy(3, "pay near+1;"), 2);
        due.is("near: w empties on it", paidBy(5, "pay near+1;"), 1);
        due.is("near: beside", paidBy(2, "pay near+1;"), 1);
        due.is("far: none between, above", paidBy(3, "pay far;"), 0);
        due.is("far: none between, below", paidBy(5, "pay far;"), 0);
        due.is("far: three between", paidBy(0, "pay far;"), 3);
        due.is("far: four between", paidBy(9, "pay far;"), 4);
        due.is("above: the lesser number", paidBy(3, "pay above+1;"), 2);
        due.is("above: the greater number", paidBy(5, "pay above+1;"), 1);
        due.is("the least area", paidBy(0, "pay area;"), 1);
        due.is("the most area", paidBy(9, "pay area;"), 99);
        due.is("nothing held", paidBy(0, "pay held;"), 0);
        // 990 were held, all let go, and 99 held again behind the storm.
        due.is("held behind the storm", paidBy(9, "pay held;"), 99);
    }

    private static void faultIs(String text, int fault, int place) {
        DrinkingRoofs x = Due.street();
        Due.feed(x, text);
        due.is("text '" + text + "'", x.text(), NONE);
        due.is("fault of '" + text + "'", x.fault(0), fault);
        due.is("place in '" + text + "'", x.fault(1), place);
        due.is("the law stays", x.look(6), 1);
        due.is("the tape is empty", x.end(1), false);
    }

    private static void reads(String text, int lines) {
        DrinkingRoofs x = Due.street();
        Due.feed(x, text);
        due.is("text '" + text + "'", x.text(), lines);
        due.is("no fault in '" + text + "'", x.fault(0), 0);
        due.is("no place in '" + text + "'", x.fault(1), NONE);
        due.is("lines", x.look(6), lines);
    }

    private static void emptyTexts() {
        reads("", 0);
        reads(" ", 0);
        reads("\n", 0);
        reads(" \n \n\n  ", 0);
        reads(" ".repeat(400), 0);
        faultIs("\t", 1, 0);
        faultIs("\r", 1, 0);
        faultIs("  \u0000", 1, 2);
        faultIs("\n\u00ff", 1, 1);
        faultIs("\u0080", 1, 0);
        for (char sign = 128; sign < 256; sign++) {
            faultIs("pay 1" + sign + "1;", 1, 5);
        }
        faultIs("pay 1\u00ff", 1, 5);
        faultIs("pay 1\u0001", 1, 5);
    }

    private static void endsTooEarly() {
        String whole = "pay 1 + wet when not ( 1 = 1 and 2 < 3 ) or 1 > 0 ;";
        for (int n = 1; n < whole.length(); n++) {
            String cut = whole.substring(0, n);
            boolean inWord = Character.isLetter(cut.charAt(n - 1))
                && Character.isLetter(whole.charAt(n));
            if (!inWord) {
                faultIs(cut, 1, n);
                faultIs(cut + " \n", 1, n + 2);
            }
        }
        reads(whole, 1);
        faultIs(whole + " pay", 1, whole.length() + 4);
        faultIs("pay 1" + " ".repeat(395), 1, 400);
        reads("pay 1" + " ".repeat(394) + ";", 1);
        reads(" ".repeat(394) + "pay 1;", 1);
    }

    /** What stands behind the cut is no part of the text, though it be letters or digits. */
    private static void endsInsideOf(String fed, int n, int place) {
        DrinkingRoofs x = new DrinkingRoofs();
        Due.feed(x, fed);
        x.end(n);
        due.is("text cut to " + n, x.text(), NONE);
        due.is("fault", x.fault(0), 1);
        due.is("place", x.fault(1), place);
    }

    private static void cutInTokens() {
        endsInsideOf("pay 12345;", 8, 8);
        endsInsideOf("pay 1;payx", 9, 9);
        endsInsideOf("pay wets", 7, 7);
        endsInsideOf("pay wet ", 6, 4);
        endsInsideOf(" ".repeat(390) + "pay 123456", 398, 398);
        endsInsideOf(" ".repeat(390) + "pay   1234", 400, 400);
        endsInsideOf(" ".repeat(390) + "pay 1; pay", 400, 400);
        endsInsideOf(" ".repeat(390) + "pay 1; wet", 400, 397);
        endsInsideOf(" ".repeat(390) + "pay 12345;", 400, 394);
    }

    /** A fault leaves nothing open for the next text. */
    private static void readsAfterFaults() {
        String[] faults = {"pay 1 when ((((((((1=1", "pay 1 when not not not not not not not 1*1+",
            "pay 1 when (1=2 or 1=1 and not", "pay 1-2*", "pay 1;pay 2;pay 3-"};
        for (String fault : faults) {
            DrinkingRoofs x = Due.many(2, 10, 50);
            x.tell(0, 1, 0);
            Due.rain(x, 5);
            due.is("a fault", Due.law(x, fault), NONE);
            due.is("one line", Due.law(x, "pay 2+3*1;"), 1);
            x.comes(0);
            due.is("nothing of the fault is paid", x.of(0, 10), 5);
            due.is("a fault again", Due.law(x, fault), NONE);
            due.is("no bracket is open", Due.law(x, "pay 1 when 1=1);"), NONE);
            due.is("and again", Due.law(x, fault), NONE);
            due.is("eight may be", Due.law(x, "pay 3 when not(not(not(not(1=1))));"), 1);
            x.comes(0);
            due.is("nothing of it is asked", x.of(0, 10), 8);
        }
    }

    private static void wordsAndNumbers() {
        reads("pay 0;", 1);
        reads("pay 9999;", 1);
        reads("pay 0000;", 1);
        faultIs("pay 00000;", 1, 4);
        faultIs("pay 10000;", 1, 4);
        faultIs("pay 1 when 1=99999;", 1, 13);
        faultIs("pay 4294967297;", 1, 4);
        reads("pay1;", 1);
        reads("pay 1when 1=1or 2=2and 3=3;", 1);
        reads("pay 1when2=2;", 1);
        faultIs("paywet;", 1, 0);
        faultIs("pa y 1;", 1, 0);
        faultIs("p", 1, 0);
        faultIs("pay 1;p", 1, 6);
        faultIs("pay wets;", 1, 4);
        faultIs("pay we;", 1, 4);
        faultIs("pay abov;", 1, 4);
        faultIs("pay abovee;", 1, 4);
        faultIs("pay Wet;", 1, 4);
        faultIs("pay 1 when 1=1 nand 1=1;", 1, 15);
        faultIs("pay 1 when 1=1 orr 1=1;", 1, 15);
        faultIs("pay 1 2;", 1, 6);
        faultIs("pay 1{;", 1, 5);
        faultIs("pay 1@;", 1, 5);
        faultIs("pay 1[;", 1, 5);
        faultIs("pay 1`;", 1, 5);
        faultIs("pay 1:;", 1, 5);
        faultIs("pay 1?;", 1, 5);
        faultIs("pay 1.5;", 1, 5);
    }

    /** Each token behind each beginning: what may not stand there is a fault at its place. */
    private static void whatCanStand() {
        String sums = " + - * / ";
        String units = " 7 wet clog own near far above area held ";
        String[][] behind = {
            {"", " pay "}, {"pay 1;", " pay "}, {"pay 1 when 1=1;", " pay "},
            {"pay", units}, {"pay 1+", units}, {"pay 1-", units}, {"pay 1*", units},
            {"pay 1/", " 7 "}, {"pay 1", sums + "when ; "}, {"pay wet", sums + "when ; "},
            {"pay 1/2", sums + "when ; "}, {"pay 1 when", units + "not ( "},
            {"pay 1 when not", units + "not ( "}, {"pay 1 when (", units + "not ( "},
            {"pay 1 when 1=1 and", units + "not ( "}, {"pay 1 when 1=1 or", units + "not ( "},
            {"pay 1 when 1", sums + "< = > "}, {"pay 1 when not wet", sums + "< = > "},
            {"pay 1 when (1/2", sums + "< = > "}, {"pay 1 when 1<", units},
            {"pay 1 when 1=", units}, {"pay 1 when 1>", units}, {"pay 1 when 1=1+", units},
            {"pay 1 when 1=1/", " 7 "}, {"pay 1 when 1=1", sums + "and or ; "},
            {"pay 1 when not 1=1", sums + "and or ; "}, {"pay 1 when (1=1", sums + "and or ) "},
            {"pay 1 when (not 1=1", sums + "and or ) "}, {"pay 1 when (1=1)", " and or ; "},
            {"pay 1 when ((1=1)", " and or ) "}, {"pay 1 when not (1=1)", " and or ; "}};
        String tokens = "pay when or and not wet clog own near far above area held 7 12345 up ; + - * /"
            + " ( ) < = > ! & |";
        for (String[] row : behind) {
            for (String token : tokens.split(" ")) {
                String text = row[0] + " " + token;
                if (row[1].contains(" " + token + " ")) {
                    DrinkingRoofs x = Due.street();
                    boolean read = Due.law(x, text) != NONE;
                    due.is("stands: " + text, read || x.fault(1) == text.length(), true);
                } else {
                    faultIs(text, 1, row[0].length() + 1);
                }
            }
        }
    }

    private static void partBy0() {
        faultIs("pay 1/0;", 2, 6);
        faultIs("pay 1/0000;", 2, 6);
        faultIs("pay 1/ \n0;", 2, 8);
        faultIs("pay 1/00000;", 1, 6);
        faultIs("pay 1/wet;", 1, 6);
        faultIs("pay 1/;", 1, 6);
        faultIs("pay 1/", 1, 6);
        faultIs("pay 0/0", 2, 6);
        faultIs("pay 1 when 1/1=1/0;", 2, 17);
        reads("pay 1/0001;", 1);
        reads("pay 1/1*0;", 1);
        reads("pay 0*0-0+0;", 1);
        faultIs("pay 1/2/0;", 2, 8);
        faultIs("pay 1/2 3/0;", 1, 8);
    }

    private static void sixteenLines() {
        String sixteen = "pay 1;".repeat(16);
        reads(sixteen, 16);
        reads(sixteen + "  ", 16);
        faultIs(sixteen + "pay 1;", 3, 96);
        faultIs(sixteen + "  pay 1;", 3, 98);
        faultIs(sixteen + "pay", 3, 96);
        faultIs(sixteen + "pay;", 3, 96);
        faultIs(sixteen + ";", 1, 96);
        faultIs(sixteen + "wet", 1, 96);
        faultIs(sixteen + "payy", 1, 96);
        faultIs("pay 1;".repeat(15) + "pay 1/0;pay 1;", 2, 96);
        faultIs("pay 1;".repeat(66), 3, 96);
    }

    private static void eightOpen() {
        String nots = "not ".repeat(8);
        reads("pay 1 when " + nots + "1=1;", 1);
        faultIs("pay 1 when " + nots + "not 1=1;", 3, 43);
        faultIs("pay 1 when " + nots + "(1=1);", 3, 43);
        faultIs("pay 1 when " + nots + "not", 3, 43);
        reads("pay 1 when " + nots + "1=1 and " + nots + "1=1 or " + nots + "1=1;", 1);
        reads("pay 1 when ((((((((1=1))))))));", 1);
        faultIs("pay 1 when (((((((((1=1)))))))));", 3, 19);
        faultIs("pay 1 when ((((((((not 1=1))))))));", 3, 19);
        reads("pay 1 when ((((((((1=1))))))))and((((((((1=1))))))));", 1);
        reads("pay 1 when ((((((((1=1)))))))or 1=1);", 1);
        reads("pay 1 when ((((((((1=1))and((1=1))))))));", 1);
        faultIs("pay 1 when ((((((((1=1))and(((1=1)))))))));", 3, 29);
        reads("pay 1 when (((((((not 1=1 or not 1=1 and not 1=1)))))));", 1);
        faultIs("pay 1 when (((((((not 1=1 or not (1=1))))))));", 3, 33);
        faultIs("pay 1 when (((((((not 1=1 or not not 1=1)))))));", 3, 33);
        reads("pay 1 when not(not(not(not(1=1))))or not(not(not(not(1=1))));", 1);
        faultIs("pay 1 when not(not(not(not((1=1)))));", 3, 27);
        reads(("pay 1 when " + nots + "1=1;").repeat(2), 2);
        // Nine that are open one after the other are never open together.
        reads("pay 1 when " + "not 1=1 and ".repeat(9) + "(1=1);", 1);
        reads("pay 1 when " + "(1=1) or ".repeat(9) + "not 1=1;", 1);
    }

    private static void bracketsPair() {
        faultIs("pay 1 when 1=1);", 1, 14);
        faultIs("pay 1 when (1=1));", 1, 16);
        faultIs("pay 1 when (1=1;", 1, 15);
        faultIs("pay 1 when ();", 1, 12);
        faultIs("pay 1 when not;", 1, 14);
        faultIs("pay 1 when not 1;", 1, 16);
        faultIs("pay 1 when (1=1)+2;", 1, 16);
        faultIs("pay 1 when (1=1)=1;", 1, 16);
        faultIs("pay 1 when ((1=1)1;", 1, 17);
        faultIs("pay 1 when (1)=1;", 1, 13);
        faultIs("pay (1);", 1, 4);
        faultIs("pay 1 when 1=(1);", 1, 13);
        faultIs("pay not 1=1;", 1, 4);
        faultIs("pay 1 when;", 1, 10);
        faultIs("pay 1 when 1=1=1;", 1, 14);
        faultIs("pay 1 when 1=1 when 1=1;", 1, 15);
        faultIs(";", 1, 0);
        faultIs("pay 1;;", 1, 6);
        faultIs("pay +1;", 1, 4);
        faultIs("pay 1+;", 1, 6);
    }

    // Part 4: in thought.

    private static void nothingOfItStays() {
        DrinkingRoofs x = Due.street();
        DrinkingRoofs y = Due.street();
        due.leaves("blame", x, () -> x.blame(1, 0, 0, 0), y.blame(1, 0, 0, 0));
        due.leaves("left", x, () -> x.blame(1, 0, 0, 2), y.blame(1, 0, 0, 2));
        due.leaves("gutters", x, () -> x.gutters(0, 0), y.gutters(0, 0));
        DrinkingRoofs v = Due.street();
        due.leaves("cleanings", v, () -> v.cleanings(0, 0, 0, 0, 0), y.cleanings(0, 0, 0, 0, 0));
        due.leaves("stains", v, () -> v.stains(3, 0), y.stains(3, 0));
        DrinkingRoofs w = Due.street();
        due.leaves("drain", w, () -> w.drain(0), y.drain(0));
        due.leaves("added", w, () -> w.added(1, 9, 9, 0), y.added(1, 9, 9, 0));
        due.is("as if none had been thought", x.comes(0) + v.comes(0) + w.comes(0),
            3 * Due.street().comes(0));
    }

    private static void blameHalves() {
        DrinkingRoofs x = Due.chain(2, 5, 10);
        Due.rain(x, 1);
        due.is("none clogged, above", x.blame(1, 0, 0, 0), 0);
        due.is("none clogged, below", x.blame(1, 0, 0, 1), 1);
        due.is("none clogged, left", x.blame(1, 0, 0, 2), 0);
        x.tell(0, 0, 8);
        due.is("one clogged, whole", x.blame(0, 0, 0, 0), 3);
        due.is("one clogged, below", x.blame(0, 0, 0, 1), 1);
        x.tell(1, 0, 5);
        // Over at 1: nothing; clogged above nothing; clogged itself 5; both 2.
        due.is("a share below 0", x.blame(1, 0, 0, 0), -3);
        due.is("in halves", x.blame(1, 0, 0, 1), 2);
        due.is("its own", x.blame(1, 1, 0, 0), 7);
        due.is("its own in halves", x.blame(1, 1, 0, 1), 2);
        due.is("a clog below", x.blame(0, 1, 0, 0), 0);
        due.is("without a common part", x.blame(0, 1, 0, 1), 1);
        due.is("whole for the upper", x.blame(0, 0, 0, 0), 3);
        due.is("whole below", x.blame(0, 0, 0, 1), 1);
        x.tell(1, 1, 0);
        due.is("left with no clog", x.blame(1, 0, 0, 2), 10);
    }

    private static void blameSharesAdd() {
        DrinkingRoofs x = Due.chain(10, 7, 29);
        int s = Due.rain(x, 3, 0, 5);
        int[] clogs = {3, 0, 1, 10, 0, 2, 9, 7, 0, 4};
        for (int h = 0; h < 10; h++) {
            x.tell(h, 0, clogs[h]);
        }
        for (int w = 0; w < 10; w += 3) {
            long all = 0;
            for (int u = 0; u < 10; u++) {
                long below = x.blame(w, u, s, 1);
                due.is("parts of all orders", 5040 % below, 0);
                all += x.blame(w, u, s, 0) * 5040 / below;
            }
            long left = x.blame(w, 0, s, 2);
            x.image(true);
            x.comes(s);
            due.is("seven shares add", all, 5040 * (x.of(w, 12) - left));
            x.image(false);
        }
        x.tell(1, 0, 1);
        due.is("eight", x.blame(9, 0, s, 0), NONE);
        due.is("eight, below", x.blame(9, 0, s, 1), NONE);
        due.is("eight, one that is clean", x.blame(9, 4, s, 0), NONE);
        x.tell(9, 0, 0);
        due.is("seven again", x.blame(9, 4, s, 1), 1);
    }

    private static void blameAsNow() {
        DrinkingRoofs x = Due.one(10, 30);
        x.tell(0, 3, 20);
        Due.rain(x, 5);
        Due.rain(x, -9);
        x.tell(0, 0, 10);
        due.is("an empty barrel", x.blame(0, 0, 0, 2), 0);
        x.comes(1);
        due.is("snow on the roof", x.blame(0, 0, 0, 2), 10);
        x.comes(0);
        due.is("a full barrel", x.blame(0, 0, 0, 2), 30);
        due.is("the share", x.blame(0, 0, 0, 0), 30);
    }

    private static void fewestCleanings() {
        DrinkingRoofs x = new DrinkingRoofs();
        int five = Due.rain(x, 5);
        int ten = Due.rain(x, 10);
        due.is("no houses", x.cleanings(five, ten, five, ten, 0), 0);
        x.house(10, 100, 3, 0);
        x.house(10, 100, 5, 0);
        due.is("none", x.cleanings(five, five, NONE, NONE, 0), 0);
        due.is("an empty set", x.cleanings(five, five, NONE, NONE, 10), 0);
        // Either ahead of the second or of the third: the least set ahead of the second is none.
        due.is("two", x.cleanings(five, five, five, NONE, 0), 2);
        due.row("as late as can be", sets(x, five, five, five, NONE), 0, 0, 3, NONE);
        x.tell(1, 0, 6);
        due.is("three", x.cleanings(five, five, five, NONE, 0), 3);
        due.row("first and last", sets(x, five, five, five, NONE), 2, 0, 3, NONE);
        due.is("four storms", x.cleanings(five, five, five, five, 0), 3);
        due.row("four sets", sets(x, five, five, five, five), 2, 0, 3, 0);
        due.is("ahead of each", x.cleanings(ten, ten, ten, ten, 0), 7);
        due.row("but the clean one", sets(x, ten, ten, ten, ten), 2, 3, 3, 3);
        int dry = Due.rain(x, 0);
        due.row("none for dry ones", sets(x, dry, dry, dry, dry), 0, 0, 0, 0);
        x.tell(0, 0, 10);
        x.tell(1, 0, 10);
        due.row("clogged whole", sets(x, ten, NONE, ten, ten), 3, NONE, NONE, NONE);
        x.tell(1, 1, 99);
        due.is("no way", x.cleanings(five, ten, NONE, NONE, 0), NONE);
        due.row("no way, no set", sets(x, five, ten, NONE, NONE), NONE, NONE, NONE, NONE);
        due.is("a way without it", x.cleanings(five, NONE, ten, NONE, 0), 2);
        x.house(1, 100, 0, 0);
        x.house(1, 100, 0, 0);
        x.tell(3, 0, 10);
        due.row("four houses", sets(x, five, NONE, NONE, NONE), 11, NONE, NONE, NONE);
        x.house(1, 100, 0, 0);
        due.is("five houses", x.cleanings(five, NONE, NONE, NONE, 0), NONE);
    }

    private static String sets(DrinkingRoofs x, int a, int b, int c, int d) {
        StringBuilder all = new StringBuilder();
        for (int i = 0; i < 4; i++) {
            all.append(' ').append(x.cleanings(a, b, c, d, 10 + i));
        }
        return all.toString();
    }

    private static void cleaningsInARow() {
        DrinkingRoofs x = Due.one(10, 60);
        int snow = Due.rain(x, -5);
        int rain = Due.rain(x, 5);
        int dry = Due.rain(x, 0);
        due.is("snow of the first melts in the second", x.cleanings(snow, rain, NONE, NONE, 0), 0);
        x.tell(0, 1, 59);
        due.is("one too much", x.cleanings(snow, rain, NONE, NONE, 0), NONE);
        due.is("without the snow", x.cleanings(rain, rain, NONE, NONE, 0), 0);
        x.tell(0, 1, 30);
        x.tell(0, 3, 20);
        due.is("a barrel takes it once", x.cleanings(rain, NONE, NONE, NONE, 0), 0);
        due.is("and is full then", x.cleanings(rain, rain, NONE, NONE, 0), NONE);
        x.tell(0, 4, 20);
        due.is("but for a dry storm", x.cleanings(rain, dry, rain, dry, 0), 0);
        x.tell(0, 4, 19);
        due.is("that lets go enough", x.cleanings(rain, dry, rain, NONE, 0), NONE);
        x.tell(0, 0, 10);
        due.is("nothing came, nothing to clean", x.cleanings(dry, dry, dry, dry, 0), 0);
        x.tell(0, 2, 10);
        due.row("what is let go wets too", sets(x, rain, dry, NONE, NONE), 1, 1, NONE, NONE);
    }

    private static void cleaningsDownTheStreet() {
        DrinkingRoofs x = Due.chain(4, 10, 100);
        int one = Due.rain(x, 1);
        for (int h = 0; h < 4; h++) {
            x.tell(h, 0, h == 3 ? 7 : 10);
        }
        // What the upper ones carry when they are clean comes to the last: 40, and it carries 30.
        due.row("all four", sets(x, one, NONE, NONE, NONE), 15, NONE, NONE, NONE);
        due.is("four cleanings", x.cleanings(one, NONE, NONE, NONE, 0), 4);
        x.tell(3, 0, 6);
        due.row("all but the last", sets(x, one, NONE, NONE, NONE), 7, NONE, NONE, NONE);
        x.tell(3, 1, 39);
        due.is("no way for the last", x.cleanings(one, NONE, NONE, NONE, 0), NONE);
    }

    private static void guttersMustCarry() {
        DrinkingRoofs x = new DrinkingRoofs();
        int most = Due.rain(x, 99);
        int none = Due.rain(x, 0);
        int snow = Due.rain(x, -2, 0, 0);
        for (int h = 0; h < 10; h++) {
            x.house(99, 0, 0, 99);
        }
        for (int h = 0; h < 9; h++) {
            x.next(h, h + 1);
        }
        for (int h = 0; h < 10; h++) {
            due.is("a gutter below " + h, x.gutters(most, 10 + h), (h + 1) * 9801);
            due.is("nothing to carry", x.gutters(none, 10 + h), 0);
        }
        due.is("the highest price", x.gutters(most, 0), 55 * 9801 * 99);
        due.is("no price", x.gutters(none, 0), 0);
        due.is("snow of it melts", x.gutters(snow, 10), 99);
        x.tell(0, 6, 9);
        due.is("all of it at once", x.gutters(snow, 10), 198);
        x.tell(0, 6, 0);
        due.is("or not at all", x.gutters(snow, 10), 0);
        x.tell(0, 0, 10);
        due.is("without clogs above", x.gutters(most, 11), 2 * 9801);
    }

    private static void guttersPrice() {
        DrinkingRoofs x = new DrinkingRoofs();
        x.house(10, 50, 10, 99);
        int rain = Due.rain(x, 5, 4);
        int snow = Due.rain(x, -9);
        due.is("just enough", x.gutters(rain, 0), 0);
        x.tell(0, 1, 49);
        due.is("one more", x.gutters(rain, 0), 99);
        x.tell(0, 1, 9999);
        due.is("no coins back", x.gutters(rain, 0), 0);
        x.tell(0, 1, 0);
        x.tell(0, 3, 30);
        x.comes(rain);
        x.comes(snow);
        x.tell(0, 4, 30);
        due.is("held", x.of(0, 8), 30);
        due.is("no clog, barrel, nothing held, no snow ahead", x.gutters(rain, 0), 50 * 99);
        int dry = Due.rain(x, 0);
        due.is("nothing is let go", x.gutters(dry, 10), 0);
        due.is("nor while it snows", x.gutters(snow, 10), 0);
    }

    private static void stainsExplained() {
        DrinkingRoofs x = Due.many(8, 1, 0);
        for (int s = 0; s < 10; s++) {
            Due.rain(x, 1);
        }
        due.is("all ways", x.stains(255, 0), 10 * 256);
        due.is("the least storm", x.stains(255, 1), 0);
        due.is("the least set", x.stains(255, 2), 0);
        due.is("in all", x.stains(255, 3), 0);
        due.is("no way", x.stains(254, 0), 0);
        due.is("no way, storm", x.stains(254, 1), NONE);
        due.is("no way, set", x.stains(254, 2), NONE);
        due.is("no way, in all", x.stains(254, 3), 0);
        due.is("none wet, no way", x.stains(0, 0), 0);
        for (int h = 0; h < 8; h++) {
            x.tell(h, 1, 1);
        }
        due.is("just these", x.stains(129, 0), 10);
        due.is("just these, set", x.stains(129, 2), 129);
        due.is("none wet", x.stains(0, 0), 10);
        due.is("just these, in all", x.stains(129, 3), 129);
        x.tell(0, 1, 0);
        due.is("no way, in all, behind one", x.stains(128, 3), 0);
        due.is("no way, storm, behind one", x.stains(128, 1), NONE);
        due.is("no way, set, behind one", x.stains(128, 2), NONE);
        x.tell(0, 1, 1);
        due.is("none wet, set", x.stains(0, 2), 0);
        for (int s = 0; s < 9; s++) {
            x.fall(s, 0, 0, false);
        }
        due.is("the last storm alone", x.stains(255, 1), 9);
        due.is("all clogged", x.stains(255, 3), 255);
        due.is("dry storms wet none", x.stains(0, 0), 9 * 256 + 1);
    }

    /** The houses above are always wet; one of them clogged, or both, and the last stays dry. */
    private static void stainsLeastSet() {
        DrinkingRoofs x = Due.many(3, 10, 50);
        x.tell(2, 1, 150);
        x.next(0, 2);
        x.next(1, 2);
        Due.rain(x, 8);
        due.is("clogged 1, 2 or 3", x.stains(3, 0), 3);
        due.is("the least", x.stains(3, 2), 1);
        due.is("none in all", x.stains(3, 3), 0);
        x.tell(1, 1, 9);
        due.is("none clogged explains it too", x.stains(3, 0), 4);
        x.tell(1, 1, 80);
        x.tell(2, 1, 130);
        due.is("the second wet of its clog alone", x.stains(3, 2), 2);
        Due.rain(x, 9);
        x.tell(2, 1, 250);
        x.fall(0, 0, 5, false);
        // Storm 0 wets 0 and 1 if both are clogged; storm 1 wets them anyway, and never 2.
        due.is("ways of both storms", x.stains(3, 0), 5);
        due.is("the least storm", x.stains(3, 1), 0);
        due.is("the set with it, though another is less", x.stains(3, 2), 3);
        due.is("in all of both", x.stains(3, 3), 0);
        x.tell(2, 1, 90);
        due.is("one way each", x.stains(3, 0), 2);
        due.is("the same in both", x.stains(3, 3), 3);
    }

    private static void stainsAsThen() {
        DrinkingRoofs x = Due.one(10, 20);
        x.tell(0, 3, 30);
        x.tell(0, 4, 30);
        int rain = Due.rain(x, 5, 0);
        Due.rain(x, -9);
        // 20 are carried and 30 let go later, of which 10 run over.
        due.is("barrel and let as told", x.stains(1, 0), 2);
        x.tell(0, 4, 20);
        due.is("not wet unless clogged", x.stains(1, 2), 1);
        x.tell(0, 0, 7);
        x.comes(1);
        x.comes(rain);
        due.row("there are", " " + x.of(0, 5) + " " + x.of(0, 8) + " " + x.of(0, 9), 7, 30, 70);
        due.is("clog, held and snow of now don't count", x.stains(1, 2), 1);
        due.is("dry ways", x.stains(0, 0), 3);
        due.is("no storms", Due.one(10, 20).stains(0, 0), 0);
    }

    private static void drainHelps() {
        DrinkingRoofs x = Due.many(3, 10, 100);
        Due.rain(x, 10);
        due.is("all into the cistern", x.drain(0), NONE);
        x.next(0, 1);
        due.is("one on another", x.drain(0), 0);
        x.tell(1, 1, 200);
        due.is("nothing over, no less", x.drain(0), NONE);
        x.tell(1, 1, 199);
        due.is("one less", x.drain(0), 0);
        x.next(0, 2);
        x.next(1, 2);
        x.tell(1, 1, 100);
        due.is("the least number of two", x.drain(0), 0);
        x.tell(0, 1, 99);
        due.is("the one that helps more", x.drain(0), 1);
        x.tell(0, 0, 10);
        x.tell(1, 0, 10);
        due.is("nothing comes of them", x.drain(0), NONE);
    }

    private static void drainMayHarm() {
        DrinkingRoofs x = Due.chain(2, 10, 100);
        x.tell(0, 3, 10);
        x.tell(1, 3, 50);
        Due.rain(x, 5);
        x.comes(0);
        x.tell(0, 4, 10);
        x.tell(1, 4, 50);
        x.tell(1, 1, 9);
        Due.rain(x, 0);
        // Drained, nothing comes to house 1, which lets go more than it carries.
        due.is("more runs over then", x.drain(1), NONE);
    }

    private static void addedAtTheEnds() {
        DrinkingRoofs x = new DrinkingRoofs();
        Due.rain(x, 10);
        due.is("the first house", x.added(0, 1, 9, 0), 1);
        due.is("no place behind it", x.added(1, 1, 9, 0), NOTHING);
        x.house(10, 100, 0, 0);
        due.is("ahead of all: on the one that stood there", x.added(0, 1, 10, 0), 10);
        due.is("ahead of all, carrying nothing", x.added(0, 1, 0, 0), 10);
        due.is("at the end: into the cistern", x.added(1, 99, 990, 0), 0);
        due.is("at the end: one too many", x.added(1, 99, 989, 0), 1);
        due.is("no place behind the end", x.added(2, 1, 9, 0), NOTHING);
        x.house(10, 200, 0, 0);
        x.next(0, 1);
        due.is("none empties on it at the end", x.added(2, 1, 10, 0), 0);
        due.is("between: 100 come to it", x.added(1, 1, 100, 0), 10);
        due.is("between: and go on", x.added(1, 1, 110, 0), 10);
        for (int h = 2; h < 9; h++) {
            x.house(1, 10, 0, 0);
        }
        due.is("the tenth house", x.added(9, 1, 9, 0), 1);
        due.is("the tenth house, ahead", x.added(0, 1, 9, 0), 10);
        x.house(1, 10, 0, 0);
        due.is("an eleventh", x.added(9, 1, 9, 0), NOTHING);
        due.is("an eleventh at the end", x.added(10, 1, 9, 0), NOTHING);
    }

    /** Gutters that empty past the place go on to the same houses, whatever their numbers now. */
    private static void addedPastOthers() {
        DrinkingRoofs x = Due.many(4, 10, 100);
        x.next(0, 2);
        x.next(1, 3);
        Due.rain(x, 5);
        x.tell(2, 1, 100);
        x.tell(3, 1, 100);
        // 100 come to houses 2 and 3 each.
        due.is("none over as it is", x.added(4, 1, 5, 0), 0);
        due.is("on house 0, which has room", x.added(0, 1, 5, 0), 5);
        due.is("on house 1, with 50 of its own", x.added(1, 6, 30, 0), 30);
        due.is("on house 2, with what came from 0", x.added(2, 1, 50, 0), 5);
        due.is("on house 3, with what came from 1", x.added(3, 1, 55, 0), 5);
        due.is("and one too narrow", x.added(3, 1, 0, 0), 55);
    }

    private static void addedMayHelp() {
        DrinkingRoofs x = new DrinkingRoofs();
        x.house(1, 100, 0, 0);
        x.house(99, 100, 0, 0);
        x.next(0, 1);
        x.tell(0, 3, 1);
        x.tell(1, 3, 100);
        Due.rain(x, 2);
        due.is("barrels fill", x.comes(0), 0);
        x.tell(0, 4, 1);
        x.tell(1, 4, 100);
        Due.rain(x, 0, 2);
        // As it is, 1 from above keeps the barrel full, and 99 run over an hour later. With the new
        // one in between 1 and 3 run over there, the barrel empties, and takes what comes then.
        due.is("less than before", x.added(1, 1, 0, 1), 4 - 99);
    }

    private static void addedIsNew() {
        DrinkingRoofs x = Due.one(10, 9999);
        Due.rain(x, -3);
        int dry = Due.rain(x, 0);
        int snow = Due.rain(x, -1, 0);
        x.comes(0);
        due.is("no snow on it", x.added(1, 99, 0, dry), 0);
        due.is("snow that falls in it melts", x.added(1, 5, 0, snow), 5);
        x.tell(0, 1, 0);
        due.is("the others have theirs", x.added(0, 5, 0, dry), 0);
        due.is("what melts comes on", x.added(0, 5, 5, snow), 5);
    }

    public static void main(String[] args) {
        fallTimesArea();
        snowMelts();
        barrelTakes();
        barrelMadeSmaller();
        barrelLetsGo();
        barrelHearsFromAbove();
        letGoRunsOver();
        quotientsGoDownwards();
        gutterIsJustFull();
        sameHourDownTheStreet();
        cisternIsFull();
        leavesClog();
        dryStorms();
        whoPays();
        mostInAllCalls();
        payIsHeld();
        intsWrap();
        partsGoTowards0();
        whichLine();
        whatIsSo();
        sumsFromTheLeft();
        measures();
        emptyTexts();
        endsTooEarly();
        cutInTokens();
        readsAfterFaults();
        wordsAndNumbers();
        whatCanStand();
        partBy0();
        sixteenLines();
        eightOpen();
        bracketsPair();
        nothingOfItStays();
        blameHalves();
        blameSharesAdd();
        blameAsNow();
        fewestCleanings();
        cleaningsInARow();
        cleaningsDownTheStreet();
        guttersMustCarry();
        guttersPrice();
        stainsExplained();
        stainsLeastSet();
        stainsAsThen();
        drainHelps();
        drainMayHarm();
        addedAtTheEnds();
        addedPastOthers();
        addedMayHelp();
        addedIsNew();
        due.end();
    }
}
