/** Each promise of the document by itself: ordinary calls, the edges, and wrong calls. */
public final class PromisesTest {
    private static final int NONE = DrinkingRoofs.NONE;
    private static final int NOTHING = -1000000000;
    private static int wrong = 0;

    private static void due(String what, long got, long want) {
        if (got != want) {
            wrong++;
            System.out.println(what + ": answered " + got + ", due is " + want);
        }
    }

    private static void due(String what, boolean got, boolean want) {
        due(what, got ? 1 : 0, want ? 1 : 0);
    }

    /** Feeds a text and takes it as the law. */
    private static int law(DrinkingRoofs x, String text) {
        feedAll(x, text);
        return x.text();
    }

    private static void feedAll(DrinkingRoofs x, String text) {
        StringBuilder padded = new StringBuilder(text);
        while (padded.length() % 20 != 0) {
            padded.append(' ');
        }
        for (int at = 0; at < padded.length(); at += 20) {
            int[] n = new int[5];
            for (int i = 0; i < 20; i++) {
                n[i / 4] = n[i / 4] << 8 | padded.charAt(at + i) & 255;
            }
            x.feed(n[0], n[1], n[2], n[3], n[4]);
        }
        x.end(text.length());
    }

    private static void rain(DrinkingRoofs x, int... falls) {
        int s = x.storm(falls.length);
        for (int t = 0; t < falls.length; t++) {
            x.fall(s, t, Math.abs(falls[t]), falls[t] < 0);
        }
    }

    private static void faultDue(String text, int fault, int place) {
        DrinkingRoofs x = new DrinkingRoofs();
        law(x, "pay 7;");
        due("text of '" + text + "'", law(x, text), NONE);
        due("fault of '" + text + "'", x.fault(0), fault);
        due("place in '" + text + "'", x.fault(1), place);
        due("the law stays behind '" + text + "'", x.look(6), 1);
    }

    private static void promise1New() {
        DrinkingRoofs x = new DrinkingRoofs();
        for (int what = 0; what <= 8; what++) {
            due("1 look " + what, x.look(what), what == 3 ? 999999 : what == 7 ? 1 : 0);
        }
        due("1 of", x.of(0, 0), NOTHING);
        due("1 image", x.image(false), false);
        due("1 fault", x.fault(0), 0);
        due("1 place", x.fault(1), NONE);
        due("1 tape", x.end(1), false);
        due("1 tape empty", x.end(0), true);
    }

    private static void promise2House() {
        DrinkingRoofs x = new DrinkingRoofs();
        int[][] wrongs = {{0, 0, 0, 0}, {100, 0, 0, 0}, {-1, 0, 0, 0}, {1, -1, 0, 0},
            {1, 10000, 0, 0}, {1, 0, -1, 0}, {1, 0, 11, 0}, {1, 0, 0, -1}, {1, 0, 0, 100}};
        for (int[] w : wrongs) {
            due("2 wrong house", x.house(w[0], w[1], w[2], w[3]), NONE);
        }
        due("2 least", x.house(1, 0, 0, 0), 0);
        due("2 most", x.house(99, 9999, 10, 99), 1);
        int[] told = {99, 9999, 10, 99, NONE, 0, 0, 0, 0, 0, 0, 0, 0, 0};
        for (int what = 0; what < told.length; what++) {
            due("2 of " + what, x.of(1, what), told[what]);
        }
        for (int h = 2; h < 10; h++) {
            due("2 more", x.house(5, 5, 5, 5), h);
        }
        due("2 the eleventh", x.house(5, 5, 5, 5), NONE);
        due("2 ten", x.look(0), 10);
    }

    private static void promise3Next() {
        DrinkingRoofs x = new DrinkingRoofs();
        x.house(1, 1, 1, 1);
        x.house(1, 1, 1, 1);
        x.house(1, 1, 1, 1);
        due("3 on the last", x.next(0, 2), true);
        due("3 told", x.of(0, 4), 2);
        due("3 on itself", x.next(1, 1), false);
        due("3 upwards", x.next(2, 1), false);
        due("3 on none such", x.next(0, 3), false);
        due("3 below NONE", x.next(0, -2), false);
        due("3 of none such", x.next(3, NONE), false);
        due("3 of NONE", x.next(-1, 1), false);
        due("3 stays", x.of(0, 4), 2);
        due("3 cistern", x.next(0, NONE), true);
        due("3 cistern told", x.of(0, 4), NONE);
    }

    private static void promise4Tell() {
        DrinkingRoofs x = new DrinkingRoofs();
        x.house(10, 100, 0, 0);
        int[] most = {10, 9999, 10, 999, 999};
        int[] asked = {5, 1, 2, 6, 7};
        for (int what = 0; what < most.length; what++) {
            due("4 most " + what, x.tell(0, what, most[what]), true);
            due("4 above " + what, x.tell(0, what, most[what] + 1), false);
            due("4 below " + what, x.tell(0, what, -1), false);
            due("4 told " + what, x.of(0, asked[what]), most[what]);
            due("4 none such " + what, x.tell(1, what, 0), false);
            due("4 least " + what, x.tell(0, what, 0), true);
        }
        due("4 size", x.tell(-5, 5, 0), true);
        due("4 size most", x.tell(99, 5, 999999), true);
        due("4 size above", x.tell(0, 5, 1000000), false);
        due("4 size below", x.tell(0, 5, -1), false);
        due("4 thaw", x.tell(7, 6, 9), true);
        due("4 thaw above", x.tell(0, 6, 10), false);
        due("4 thaw below", x.tell(0, 6, -1), false);
        due("4 thaw told", x.look(7), 9);
        due("4 another what", x.tell(0, 7, 0), false);
        due("4 what below", x.tell(0, -1, 0), false);
        x.tell(0, 1, 100);
        x.tell(0, 3, 50);
        rain(x, 9);
        x.comes(0);
        due("4 held", x.of(0, 8), 50);
        due("4 smaller barrel", x.tell(0, 3, 10), true);
        due("4 held stays", x.of(0, 8), 50);
        due("4 smaller cistern", x.tell(0, 5, 3), true);
        due("4 what it has stays", x.look(2), 40);
        due("4 size told", x.look(3), 3);
        x.comes(0);
        due("4 nothing more held", x.of(0, 8), 50);
        due("4 nothing more in it", x.look(2), 40);
        due("4 all runs off", x.look(4), 90);
    }

    private static void promise5Storm() {
        DrinkingRoofs x = new DrinkingRoofs();
        due("5 no hours", x.storm(0), NONE);
        due("5 below", x.storm(-1), NONE);
        due("5 thirteen", x.storm(13), NONE);
        due("5 one", x.storm(1), 0);
        due("5 twelve", x.storm(12), 1);
        for (int s = 2; s < 10; s++) {
            due("5 more", x.storm(3), s);
        }
        due("5 the eleventh", x.storm(3), NONE);
        due("5 hours", x.look(11), 12);
        due("5 dry at first", x.look(100 + 12 + 11), 0);
    }

    private static void promise6Fall() {
        DrinkingRoofs x = new DrinkingRoofs();
        due("6 no storm", x.fall(0, 0, 1, false), false);
        x.storm(2);
        due("6 rain", x.fall(0, 1, 99, false), true);
        due("6 rain told", x.look(101), 99);
        due("6 snow", x.fall(0, 1, 0, true), true);
        due("6 snow told", x.look(101), 100);
        due("6 hour behind", x.fall(0, 2, 1, false), false);
        due("6 hour ahead", x.fall(0, -1, 1, false), false);
        due("6 above", x.fall(0, 0, 100, false), false);
        due("6 below", x.fall(0, 0, -1, true), false);
        due("6 storm ahead", x.fall(-1, 0, 1, true), false);
        due("6 stays", x.look(100), 0);
    }

    private static void promise7Feed() {
        DrinkingRoofs x = new DrinkingRoofs();
        for (int n = 1; n <= 20; n++) {
            due("7 feed", x.feed(0x20202020, 0x20202020, 0x0a0a0a0a, 0, -1), 20 * n);
        }
        due("7 too many", x.feed(1, 2, 3, 4, 5), NONE);
        due("7 nothing came", x.end(401), false);
        due("7 all there", x.end(400), true);
        due("7 to 381", x.end(381), true);
        due("7 one too many", x.feed(1, 2, 3, 4, 5), NONE);
        due("7 to 380", x.end(380), true);
        due("7 just so many", x.feed(1, 2, 3, 4, 5), 400);
        due("7 zero bytes can't stand", x.text(), NONE);
        due("7 behind the blanks", x.fault(1), 12);
        due("7 empty then", x.feed('p' << 24 | 'a' << 16 | 'y' << 8 | ' ', '9' << 24 | ';' << 16
            | ' ' << 8 | ' ', 0x20202020, 0x0a0a0a0a, 0x20202020), 20);
        due("7 highest first", x.text(), 1);
    }

    private static void promise8End() {
        DrinkingRoofs x = new DrinkingRoofs();
        due("8 empty", x.end(0), true);
        due("8 not so many", x.end(1), false);
        x.feed(0x70617920, 0x313b7061, 0x79203120, 0x20202020, 0x20202020);
        due("8 all", x.end(20), true);
        due("8 one too many", x.end(21), false);
        due("8 below", x.end(-1), false);
        due("8 the first", x.end(6), true);
        due("8 no more back", x.end(7), false);
        due("8 cut there", x.text(), 1);
    }

    private static void promise9Text() {
        DrinkingRoofs x = new DrinkingRoofs();
        due("9 empty", x.text(), 0);
        due("9 one line", law(x, "pay 1;"), 1);
        due("9 close together", law(x, "pay1when2<3and4=4or5>1;pay wet/1*2+3-own;"), 2);
        due("9 lines", x.look(6), 2);
        due("9 blanks", law(x, "\n pay\n1 ;  \n"), 1);
        due("9 all words", law(x, "pay wet+clog+own+near+far+above+area+held when"
            + " not (wet>0 and clog<1 or own=2) and not not near=1;"), 1);
        due("9 a fault", law(x, "pay"), NONE);
        due("9 stays", x.look(6), 1);
        due("9 the tape is empty", x.end(1), false);
        StringBuilder sixteen = new StringBuilder();
        for (int i = 0; i < 16; i++) {
            sixteen.append("pay ").append(i).append(';');
        }
        due("9 sixteen", law(x, sixteen.toString()), 16);
        due("9 eight open", law(x, "pay 1 when not(not(not(not(1=1))));"), 1);
        due("9 open again", law(x, "pay 1 when not(not(not(not 1=1)))and not(not(not(not(1=1))))"
            + "or((((((((1=1))))))));"), 1);
        due("9 empty again", x.text(), 0);
        due("9 no lines", x.look(6), 0);
    }

    private static void promise10Fault() {
        DrinkingRoofs x = new DrinkingRoofs();
        law(x, "pay;");
        due("10 fault", x.fault(0), 1);
        due("10 place", x.fault(1), 3);
        due("10 another", x.fault(2), NONE);
        due("10 below", x.fault(-1), NONE);
        law(x, "pay 2;");
        due("10 none", x.fault(0), 0);
        due("10 no place", x.fault(1), NONE);
        faultDue("pay", 1, 3);
        faultDue("pay 1   ", 1, 8);
        faultDue(" ;", 1, 1);
        faultDue("pay 1;;", 1, 6);
        faultDue("PAY 1;", 1, 0);
        faultDue("payX 1;", 1, 0);
        faultDue("pay wett;", 1, 4);
        faultDue("pay we;", 1, 4);
        faultDue("pay abovearea;", 1, 4);
        faultDue("pay 12345;", 1, 4);
        faultDue("pay 1/00000;", 1, 6);
        faultDue("pay 1/0;", 2, 6);
        faultDue("pay 1/ 0000;", 2, 7);
        faultDue("pay 1/wet;", 1, 6);
        faultDue("pay (1);", 1, 4);
        faultDue("pay -1;", 1, 4);
        faultDue("pay 1 2;", 1, 6);
        faultDue("pay 1 < 2;", 1, 6);
        faultDue("pay 1 and 2;", 1, 6);
        faultDue("pay 1 when;", 1, 10);
        faultDue("pay 1 when 1;", 1, 12);
        faultDue("pay 1 when 1 and 2=2;", 1, 13);
        faultDue("pay 1 when (1)=1;", 1, 13);
        faultDue("pay 1 when 1=1=1;", 1, 14);
        faultDue("pay 1 when (1=1;", 1, 15);
        faultDue("pay 1 when (1=1)+2;", 1, 16);
        faultDue("pay 1 when 1=1);", 1, 14);
        faultDue("pay 1 when 1=1 when 2=2;", 1, 15);
        faultDue("pay 1 when 1=(2);", 1, 13);
        faultDue("pay 1 when not not not not not not not not (1=1);", 3, 43);
        faultDue("pay 1 when (((((((((1=1)))))))));", 3, 19);
        faultDue("pay 1\twhen 1=1;", 1, 5);
        faultDue("pay 1;" + (char) 233, 1, 6);
        StringBuilder seventeen = new StringBuilder();
        for (int i = 0; i < 17; i++) {
            seventeen.append("pay 1;");
        }
        faultDue(seventeen.toString(), 3, 96);
        faultDue(seventeen.substring(0, 96) + "1", 1, 96);
    }

    private static void promise11Comes() {
        DrinkingRoofs x = new DrinkingRoofs();
        due("11 no storm", x.comes(0), NONE);
        rain(x, 10, 0, -5, 0);
        due("11 no houses", x.comes(0), 0);
        x.house(10, 60, 4, 0);
        x.house(5, 100, 0, 0);
        x.next(0, 1);
        x.tell(1, 3, 30);
        x.tell(1, 4, 20);
        // House 0: 100 got, 60 on; 0; snow 50; 10 melt. House 1: 50 + 60, 30 stay, 80 on; 20 let
        // go; snow 25, 10 let go; 5 melt and 10 from above, 15 of which stay.
        due("11 first", x.comes(0), 40);
        due("11 wet", x.of(0, 12), 40);
        due("11 dry", x.of(1, 12), 0);
        due("11 snow", x.of(0, 9), 40);
        due("11 held", x.of(1, 8), 15);
        due("11 clog", x.of(0, 5), 4);
        due("11 cistern", x.look(2), 110);
        due("11 dry storms", x.of(1, 13), 1);
        due("11 no dry storms", x.of(0, 13), 0);
        // 4 tenths clogged, it carries 36: 110 came with the melting snow.
        x.comes(0);
        due("11 clogged", x.of(0, 12), 74);
        due("11 wet in all", x.of(0, 11), 114);
        due("11 clog more", x.of(0, 5), 8);
        x.comes(0);
        due("11 clog at most", x.of(0, 5), 10);
        due("11 storms", x.look(5), 4);
        due("11 fell", x.look(8), 15 * 15 * 3);
        due("11 below", x.comes(-1), NONE);
        due("11 behind", x.comes(1), NONE);
    }

    private static long paid(String text) {
        DrinkingRoofs x = new DrinkingRoofs();
        x.house(10, 0, 3, 0);
        x.house(20, 9999, 2, 0);
        x.house(30, 9999, 1, 0);
        x.next(0, 2);
        x.tell(0, 0, 6);
        x.tell(1, 0, 5);
        x.tell(2, 0, 4);
        x.tell(2, 3, 90);
        rain(x, 5);
        due("paid text " + text, law(x, text) > 0, true);
        due("paid over", x.comes(0), 50);
        due("paid adds " + text, x.of(0, 10) + x.of(1, 10) + x.of(2, 10), 0);
        return -x.of(2, 10);
    }

    /** House 2 pays to house 0, whose gutter carries nothing and empties on it. */
    private static void lawIsPaid() {
        due("law wet", paid("pay wet;"), 50);
        due("law clog in the storm", paid("pay clog;"), 4);
        due("law own", paid("pay own;"), 6);
        due("law near", paid("pay near+1;"), 1);
        due("law far", paid("pay far;"), 1);
        due("law above", paid("pay above+3;"), 3);
        due("law area", paid("pay area;"), 30);
        due("law held", paid("pay held;"), 90);
        due("law not below 0", paid("pay 1-2;"), 0);
        due("law at most", paid("pay 9999+1;"), 9999);
        due("law wraps", paid("pay 0-9999*9999*9999/9999/9999;"), 10);
        due("law parts towards 0", paid("pay 1-3/2*2+5-0-7/2;"), 1);
        due("law below 0 towards 0", paid("pay 10+1*0-7/2;"), 7);
        due("law left first", paid("pay 100-50-20;"), 30);
        due("law times first", paid("pay 2+3*4;"), 14);
        due("law first line", paid("pay 1 when 1=2;pay 2 when 1<2;pay 3;"), 2);
        due("law none so", paid("pay 1 when 1=2;pay 2 when 2<1;"), 0);
        due("law or behind and", paid("pay 1 when 1=1 or 1=1 and 1=2;"), 1);
        due("law brackets", paid("pay 1 when (1=1 or 1=1) and 1=2;"), 0);
        due("law not binds one", paid("pay 1 when not 1=2 and 1=2;"), 0);
        due("law not of brackets", paid("pay 1 when not (1=2 and 1=2);"), 1);
        due("law not so", paid("pay 1 when not 1=1;"), 0);
        due("law not less", paid("pay 1 when 1<1;"), 0);
        due("law not more", paid("pay 1 when 1>1;"), 0);
        due("law not not", paid("pay 1 when not not 1=1;"), 1);
        due("law sums compared", paid("pay 1 when 1+2*3=7 and 9-1>7 and 2*2<4+1;"), 1);
        DrinkingRoofs x = new DrinkingRoofs();
        x.house(10, 0, 0, 0);
        x.house(10, 0, 0, 0);
        x.next(0, 1);
        rain(x, 1);
        law(x, "pay 7 when near=1;pay 3 when above=0;");
        x.comes(0);
        due("law both wet, upper", x.of(0, 10), 3 - 7);
        due("law both wet, lower", x.of(1, 10), 7 - 3);
        law(x, "");
        x.comes(0);
        due("law empty", x.of(0, 10), -4);
        x.house(10, 9999, 0, 0);
        x.house(10, 9999, 0, 0);
        law(x, "pay far;");
        x.comes(0);
        due("law far from two", x.of(3, 10), -2 - 1);
        due("law far from one above", x.of(2, 10), -1);
    }

    private static void promise12Of() {
        DrinkingRoofs x = new DrinkingRoofs();
        x.house(3, 20, 2, 9);
        x.house(4, 30, 1, 8);
        x.next(0, 1);
        x.tell(0, 0, 1);
        x.tell(0, 3, 11);
        x.tell(0, 4, 7);
        rain(x, 10, -2);
        x.comes(0);
        // 30 come, 11 stay, 19 to the gutter, 18 carried; then snow, and 7 let go.
        int[] told = {3, 20, 2, 9, 1, 3, 11, 7, 4, 6, 0, 1, 1, 0};
        for (int what = 0; what < told.length; what++) {
            due("12 of " + what, x.of(0, what), told[what]);
        }
        due("12 another", x.of(0, 14), NOTHING);
        due("12 below", x.of(0, -1), NOTHING);
        due("12 none such", x.of(2, 0), NOTHING);
        due("12 NONE", x.of(-1, 0), NOTHING);
        x.house(1, 1, 1, 1);
        due("12 came later", x.of(2, 12), 0);
    }

    private static void promise13Hour() {
        DrinkingRoofs x = new DrinkingRoofs();
        x.house(10, 50, 0, 0);
        due("13 ahead of any", x.hour(0, 0, 0), NONE);
        rain(x, 8, 3);
        rain(x, 4);
        x.comes(0);
        int[] told = {80, 50, 30, 30, 30, 0};
        for (int i = 0; i < 6; i++) {
            due("13 hour", x.hour(0, i / 3, i % 3), told[i]);
        }
        due("13 behind", x.hour(0, 2, 0), NONE);
        due("13 ahead", x.hour(0, -1, 0), NONE);
        due("13 another", x.hour(0, 0, 3), NONE);
        due("13 below", x.hour(0, 0, -1), NONE);
        due("13 none such", x.hour(1, 0, 0), NONE);
        x.house(10, 50, 0, 0);
        due("13 came later", x.hour(1, 0, 0), NONE);
        x.comes(1);
        due("13 there now", x.hour(1, 0, 0), 40);
        due("13 latest is shorter", x.hour(0, 1, 0), NONE);
    }

    private static void promise14Blame() {
        DrinkingRoofs x = new DrinkingRoofs();
        due("14 nothing", x.blame(0, 0, 0, 2), NONE);
        x.house(10, 100, 0, 0);
        x.house(10, 100, 0, 0);
        x.house(10, 200, 0, 0);
        x.next(0, 2);
        x.next(1, 2);
        rain(x, 8);
        x.tell(2, 0, 10);
        x.tell(0, 0, 10);
        x.tell(1, 0, 10);
        // At house 2 run over: 40 with no clog, 0 with a clog above; with its own 240, 160 or 80.
        due("14 left", x.blame(2, 77, 0, 2), 40);
        due("14 above", x.blame(2, 2, 0, 0), 440);
        due("14 below", x.blame(2, 2, 0, 1), 3);
        due("14 above of 0", x.blame(2, 0, 0, 0), -160);
        due("14 below of 0", x.blame(2, 0, 0, 1), 3);
        due("14 others", x.blame(0, 1, 0, 0), 0);
        due("14 others below", x.blame(0, 1, 0, 1), 1);
        due("14 own alone", x.blame(0, 0, 0, 0), 80);
        due("14 u none", x.blame(2, 3, 0, 0), NONE);
        due("14 w none", x.blame(3, 0, 0, 2), NONE);
        due("14 storm none", x.blame(2, 0, 1, 2), NONE);
        due("14 another", x.blame(2, 0, 0, 3), NONE);
        due("14 what below", x.blame(2, 0, 0, -1), NONE);
        x.tell(0, 0, 0);
        due("14 clean", x.blame(2, 0, 0, 0), 0);
        due("14 clean below", x.blame(2, 0, 0, 1), 1);
        for (int h = 3; h < 10; h++) {
            x.house(1, 1, 0, 0);
            x.tell(h, 0, h < 8 ? 1 : 0);
        }
        due("14 seven", x.blame(2, 2, 0, 0), 180);
        x.tell(9, 0, 1);
        due("14 eight", x.blame(2, 2, 0, 0), NONE);
        due("14 eight, left", x.blame(2, 2, 0, 2), NONE);
        due("14 eight, clean", x.blame(2, 0, 0, 0), NONE);
    }

    private static void promise15Cleanings() {
        DrinkingRoofs x = new DrinkingRoofs();
        rain(x, 5);
        rain(x, 9);
        due("15 no houses", x.cleanings(0, 1, 0, 1, 0), 0);
        due("15 no houses, set", x.cleanings(0, 1, 0, 1, 13), 0);
        x.house(10, 100, 3, 0);
        // It stands 5 with clogs up to 5, and 9 with clogs up to 1.
        due("15 none", x.cleanings(0, 0, NONE, 7, 0), 0);
        due("15 one", x.cleanings(0, 0, 0, NONE, 0), 1);
        due("15 as late as can be", x.cleanings(0, 0, 0, NONE, 12), 1);
        due("15 not ahead", x.cleanings(0, 0, 0, NONE, 10), 0);
        due("15 each", x.cleanings(1, 1, 1, 1, 0), 3);
        due("15 not the first", x.cleanings(1, 1, 1, 1, 10), 0);
        due("15 the last", x.cleanings(1, 1, 1, 1, 13), 1);
        due("15 no fifth", x.cleanings(1, 1, 1, 1, 14), NONE);
        due("15 another", x.cleanings(1, 1, 1, 1, 1), NONE);
        due("15 below", x.cleanings(1, 1, 1, 1, -1), NONE);
        due("15 no second", x.cleanings(1, NONE, 1, 1, 11), NONE);
        due("15 no first", x.cleanings(NONE, 1, 1, 1, 0), NONE);
        due("15 none such", x.cleanings(0, 2, NONE, NONE, 0), NONE);
        due("15 below NONE", x.cleanings(0, -2, NONE, NONE, 0), NONE);
        x.house(10, 180, 3, 0);
        x.next(0, 1);
        x.tell(1, 0, 1);
        due("15 two houses", x.cleanings(1, NONE, NONE, NONE, 0), 1);
        due("15 the lower", x.cleanings(1, NONE, NONE, NONE, 10), 2);
        x.tell(1, 1, 170);
        due("15 no way", x.cleanings(1, NONE, NONE, NONE, 0), NONE);
        due("15 no way, set", x.cleanings(1, NONE, NONE, NONE, 10), NONE);
        due("15 thought alone", x.of(1, 5), 1);
        x.tell(1, 3, 20);
        due("15 a barrel helps once", x.cleanings(1, NONE, NONE, NONE, 0), 1);
        due("15 and not twice", x.cleanings(1, 1, NONE, NONE, 0), NONE);
        x.house(1, 100, 0, 0);
        x.house(1, 100, 0, 0);
        due("15 four", x.cleanings(0, NONE, NONE, NONE, 0), 0);
        x.house(1, 100, 0, 0);
        due("15 five", x.cleanings(0, NONE, NONE, NONE, 0), NONE);
    }

    private static void promise16Gutters() {
        DrinkingRoofs x = new DrinkingRoofs();
        due("16 no storm", x.gutters(0, 0), NONE);
        rain(x, 4, -6, 1, 3);
        due("16 no houses", x.gutters(0, 0), 0);
        x.house(10, 30, 0, 7);
        x.house(5, 70, 0, 2);
        x.next(0, 1);
        x.tell(0, 6, 2);
        x.tell(0, 0, 9);
        x.tell(0, 3, 500);
        x.tell(0, 4, 500);
        due("16 upper", x.gutters(0, 10), 50);
        due("16 lower", x.gutters(0, 11), 75);
        due("16 price", x.gutters(0, 0), 20 * 7 + 5 * 2);
        x.comes(0);
        due("16 held", x.of(0, 8) > 0, true);
        due("16 as ever", x.gutters(0, 0), 150);
        x.tell(0, 1, 99);
        x.tell(1, 1, 99);
        due("16 no price below 0", x.gutters(0, 0), 0);
        due("16 none such", x.gutters(0, 12), NONE);
        due("16 another", x.gutters(0, 1), NONE);
        due("16 nine", x.gutters(0, 9), NONE);
        due("16 below", x.gutters(0, -1), NONE);
        due("16 storm below", x.gutters(-1, 0), NONE);
    }

    /** Houses 0 and 1 are always wet; house 2 stays dry if one of them or both are clogged. */
    private static int leastSetOfThree() {
        DrinkingRoofs x = new DrinkingRoofs();
        x.house(10, 50, 0, 0);
        x.house(10, 50, 0, 0);
        x.house(1, 60, 0, 0);
        x.next(0, 2);
        x.next(1, 2);
        rain(x, 10);
        due("17 three ways", x.stains(3, 0), 3);
        due("17 none in all three", x.stains(3, 3), 0);
        return x.stains(3, 2);
    }

    private static void promise17Stains() {
        DrinkingRoofs x = new DrinkingRoofs();
        due("17 nothing", x.stains(0, 0), 0);
        rain(x, 5);
        rain(x, 0);
        due("17 no houses", x.stains(0, 0), 2);
        due("17 no houses, storm", x.stains(0, 1), 0);
        x.house(10, 50, 0, 0);
        x.house(10, 80, 0, 0);
        x.next(0, 1);
        x.tell(0, 0, 4);
        // Storm 0 wets house 1 unless house 0 is clogged; storm 1 wets none.
        due("17 just the lower", x.stains(2, 0), 2);
        due("17 storm", x.stains(2, 1), 0);
        due("17 set", x.stains(2, 2), 0);
        due("17 in all", x.stains(2, 3), 0);
        due("17 just the upper", x.stains(1, 0), 1);
        due("17 upper set", x.stains(1, 2), 1);
        due("17 upper in all", x.stains(1, 3), 1);
        due("17 both", x.stains(3, 0), 1);
        due("17 both in all", x.stains(3, 3), 3);
        due("17 dry", x.stains(0, 0), 4);
        due("17 dry storm", x.stains(0, 1), 1);
        due("17 dry set", x.stains(0, 2), 0);
        x.tell(1, 1, 200);
        x.fall(1, 0, 5, false);
        due("17 in both storms", x.stains(1, 0), 2);
        due("17 wet together", x.stains(3, 0), 2);
        due("17 lower alone", x.stains(2, 2), 2);
        x.fall(0, 0, 0, false);
        due("17 least storm", x.stains(2, 1), 1);
        due("17 least set", leastSetOfThree(), 1);
        due("17 no set", x.stains(4, 0), -2);
        due("17 below", x.stains(-1, 0), -2);
        due("17 another", x.stains(0, 4), -2);
        due("17 what below", x.stains(0, -1), -2);
        for (int h = 2; h < 8; h++) {
            x.house(1, 0, 0, 0);
        }
        due("17 eight", x.stains(255 - 3, 0), 64);
        due("17 none explain", x.stains(255, 1), 1);
        due("17 unexplained", x.stains(128, 1), NONE);
        due("17 unexplained set", x.stains(128, 2), NONE);
        due("17 unexplained in all", x.stains(128, 3), 0);
        x.house(1, 0, 0, 0);
        due("17 nine", x.stains(0, 0), -2);
    }

    private static void promise18Drain() {
        DrinkingRoofs x = new DrinkingRoofs();
        due("18 no storm", x.drain(0), NONE);
        rain(x, 10);
        due("18 no houses", x.drain(0), NONE);
        x.house(10, 100, 0, 0);
        x.house(10, 200, 0, 0);
        x.house(10, 150, 0, 0);
        due("18 all drained", x.drain(0), NONE);
        x.next(0, 1);
        x.next(1, 2);
        due("18 the better", x.drain(0), 1);
        x.tell(2, 1, 250);
        due("18 the first of two", x.drain(0), 0);
        x.tell(2, 1, 300);
        due("18 no less", x.drain(0), NONE);
        due("18 as told", x.of(0, 4), 1);
        due("18 below", x.drain(-1), NONE);
        due("18 behind", x.drain(1), NONE);
    }

    /** House 0 empties on house 2, past the place of the new one. */
    private static int addedBeside() {
        DrinkingRoofs x = new DrinkingRoofs();
        x.house(10, 100, 0, 0);
        x.house(10, 100, 0, 0);
        x.house(10, 220, 0, 0);
        x.next(0, 2);
        rain(x, 10);
        // The new one brings 80 to house 1, whose gutter is full already.
        due("19 on house 2", x.added(2, 1, 300, 0), 0);
        return x.added(1, 8, 100, 0);
    }

    private static void promise19Added() {
        DrinkingRoofs x = new DrinkingRoofs();
        due("19 no storm", x.added(0, 1, 1, 0), NOTHING);
        rain(x, 10, 0);
        due("19 the first", x.added(0, 10, 60, 0), 40);
        x.house(10, 100, 0, 0);
        x.house(10, 250, 0, 0);
        x.next(0, 1);
        due("19 above all", x.added(0, 10, 100, 0), 100);
        due("19 between", x.added(1, 10, 200, 0), 50);
        due("19 between, narrow", x.added(1, 10, 120, 0), 80);
        due("19 at the end", x.added(2, 10, 70, 0), 30);
        due("19 gutters past it", addedBeside(), 80);
        x.tell(0, 0, 5);
        x.tell(1, 3, 50);
        due("19 clogs and barrels as now", x.added(1, 10, 200, 0), 0);
        x.tell(1, 4, 50);
        x.tell(1, 1, 20);
        // The barrel lets go what can be carried no faster.
        due("19 let as now", x.added(2, 1, 0, 0), 10);
        due("19 place below", x.added(-1, 10, 70, 0), NOTHING);
        due("19 place behind", x.added(3, 10, 70, 0), NOTHING);
        due("19 area", x.added(0, 100, 70, 0), NOTHING);
        due("19 no area", x.added(0, 0, 70, 0), NOTHING);
        due("19 carries", x.added(0, 10, 10000, 0), NOTHING);
        due("19 carries below", x.added(0, 10, -1, 0), NOTHING);
        due("19 storm", x.added(0, 10, 70, 1), NOTHING);
        for (int h = 2; h < 10; h++) {
            due("19 room", x.added(h, 1, 0, 0), 10);
            x.house(1, 0, 0, 0);
        }
        due("19 ten", x.added(0, 10, 70, 0), NOTHING);
        due("19 thought alone", x.look(0), 10);
    }

    private static void promise20Image() {
        DrinkingRoofs x = new DrinkingRoofs();
        due("20 none", x.image(false), false);
        x.house(10, 20, 1, 2);
        x.house(10, 20, 1, 2);
        rain(x, 3);
        law(x, "pay 5;");
        x.comes(0);
        x.feed(0x70617920, 0x313b2020, 0x20202020, 0x20202020, 0x20202020);
        due("20 taken", x.image(true), true);
        for (int round = 0; round < 2; round++) {
            x.house(1, 1, 1, 1);
            x.storm(5);
            x.fall(0, 0, 9, true);
            x.next(0, 1);
            x.tell(0, 0, 10);
            x.tell(0, 6, 5);
            x.tell(0, 5, 3);
            law(x, round == 0 ? "pay 1;pay 2;" : "pay 1;oops");
            x.comes(1);
            due("20 gone back", x.image(false), true);
            due("20 houses", x.look(0), 2);
            due("20 storms", x.look(1), 1);
            due("20 cistern", x.look(2), 40);
            due("20 size", x.look(3), 999999);
            due("20 came", x.look(5), 1);
            due("20 law", x.look(6), 1);
            due("20 thaw", x.look(7), 1);
            due("20 fell", x.look(8), 60);
            due("20 fall", x.look(100), 3);
            due("20 next", x.of(0, 4), NONE);
            due("20 clog", x.of(0, 5), 1);
            due("20 over", x.of(0, 12), 10);
            due("20 hour", x.hour(0, 0, 1), 20);
            due("20 hour behind", x.hour(0, 1, 1), NONE);
            due("20 fault stays", x.fault(0), round);
        }
        x.feed(0x70617920, 0x313b2020, 0x20202020, 0x20202020, 0x20202020);
        x.image(false);
        due("20 the tape stays", x.text(), 1);
        x.comes(0);
        x.image(true);
        x.comes(0);
        x.image(false);
        due("20 taken again", x.look(5), 2);
        due("20 wet", x.of(0, 11), 22);
        x.house(50, 7, 3, 1);
        due("20 a new house is new", x.of(2, 9) + x.of(2, 12) + x.of(2, 13), 0);
    }

    private static void promise21Look() {
        DrinkingRoofs x = new DrinkingRoofs();
        x.house(10, 40, 0, 0);
        x.tell(0, 5, 50);
        rain(x, 3, -4);
        x.storm(12);
        x.fall(1, 11, 99, true);
        law(x, "pay 1;pay 2;pay 3;");
        x.comes(0);
        x.comes(0);
        int[] told = {1, 2, 50, 50, 20, 2, 3, 1, 140, NONE};
        for (int what = 0; what < told.length; what++) {
            due("21 look " + what, x.look(what), told[what]);
        }
        due("21 hours", x.look(10), 2);
        due("21 more hours", x.look(11), 12);
        due("21 no storm", x.look(12), NONE);
        due("21 twenty", x.look(20), NONE);
        due("21 ninety-nine", x.look(99), NONE);
        due("21 rain", x.look(100), 3);
        due("21 snow", x.look(101), 104);
        due("21 no hour", x.look(102), NONE);
        due("21 the last hour", x.look(123), 199);
        due("21 no storm's hour", x.look(124), NONE);
        due("21 far behind", x.look(220), NONE);
        due("21 below", x.look(-1), NONE);
        due("21 far below", x.look(Integer.MIN_VALUE), NONE);
        for (int s = 2; s < 10; s++) {
            x.storm(12);
        }
        due("21 the last storm", x.look(19), 12);
        due("21 its last hour", x.look(219), 0);
        due("21 none behind", x.look(220), NONE);
    }

    public static void main(String[] args) {
        promise1New();
        promise2House();
        promise3Next();
        promise4Tell();
        promise5Storm();
        promise6Fall();
        promise7Feed();
        promise8End();
        promise9Text();
        promise10Fault();
        promise11Comes();
        lawIsPaid();
        promise12Of();
        promise13Hour();
        promise14Blame();
        promise15Cleanings();
        promise16Gutters();
        promise17Stains();
        promise18Drain();
        promise19Added();
        promise20Image();
        promise21Look();
        System.out.println(wrong == 0 ? "all promises hold" : wrong + " answers are not as due");
        if (wrong != 0) {
            System.exit(1);
        }
    }
}
