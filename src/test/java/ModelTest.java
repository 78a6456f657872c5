import java.util.ArrayList;
import java.util.List;
import java.util.Random;

/**
 * Runs of calls drawn by seed, each answered by the class and by a plain model that does what the
 * document's words say step by step: hour by hour, all orders, all sets, the text read by descent.
 */
public final class ModelTest {
    private static final int RUNS = 120;
    private static final int CALLS = 500;
    private static int wrong = 0;

    /** The state of the document's terms, and its calls without any short cut. */
    private static final class Model {
        int n, storms, size = 999999, has, off, thaw = 1, came, fell, lastN, lastHours;
        int[][] house = new int[11][14];
        int[] hours = new int[10];
        int[][] fall = new int[10][12];
        boolean[][] snow = new boolean[10][12];
        int[][][] rec = new int[11][12][3];
        List<Line> law = new ArrayList<>();
        String tape = "";
        int fault, place = -1;
        Model image;

        Model copyRoofs() {
            Model m = new Model();
            m.n = n;
            m.storms = storms;
            m.size = size;
            m.has = has;
            m.off = off;
            m.thaw = thaw;
            m.came = came;
            m.fell = fell;
            m.lastN = lastN;
            m.lastHours = lastHours;
            for (int h = 0; h < 11; h++) {
                m.house[h] = house[h].clone();
                for (int t = 0; t < 12; t++) {
                    m.rec[h][t] = rec[h][t].clone();
                }
            }
            m.hours = hours.clone();
            for (int s = 0; s < 10; s++) {
                m.fall[s] = fall[s].clone();
                m.snow[s] = snow[s].clone();
            }
            m.law = law;
            return m;
        }

        void back(Model m) {
            Model c = m.copyRoofs();
            n = c.n;
            storms = c.storms;
            size = c.size;
            has = c.has;
            off = c.off;
            thaw = c.thaw;
            came = c.came;
            fell = c.fell;
            lastN = c.lastN;
            lastHours = c.lastHours;
            house = c.house;
            rec = c.rec;
            hours = c.hours;
            fall = c.fall;
            snow = c.snow;
            law = c.law;
        }

        boolean isHouse(int h) {
            return h >= 0 && h < n;
        }

        boolean isStorm(int s) {
            return s >= 0 && s < storms;
        }

        /** The columns of a house are those of the promise of(). */
        int comes(int s) {
            if (!isStorm(s)) {
                return -1;
            }
            for (int h = 0; h < n; h++) {
                house[h][12] = 0;
            }
            for (int t = 0; t < hours[s]; t++) {
                hourComes(s, t);
            }
            int all = 0;
            int[] clogs = new int[n];
            for (int h = 0; h < n; h++) {
                int[] x = house[h];
                all += x[12];
                x[11] += x[12];
                clogs[h] = x[5];
                x[5] = Math.min(10, x[5] + x[2]);
                x[13] = x[12] == 0 ? x[13] + 1 : 0;
            }
            for (int w = 0; w < n; w++) {
                for (int u = 0; u < n; u++) {
                    if (house[w][12] > 0 && u != w) {
                        int[] v = {house[w][12], clogs[u], clogs[w], house[u][4] == w ? 1 : 0,
                            Math.abs(u - w) - 1, u < w ? 1 : 0, house[u][0], house[u][8]};
                        int paid = paid(v);
                        house[u][10] -= paid;
                        house[w][10] += paid;
                    }
                }
            }
            came++;
            lastN = n;
            lastHours = hours[s];
            return all;
        }

        int paid(int[] v) {
            for (Line line : law) {
                if (line.when == null || line.when.worth(v) != 0) {
                    return Math.max(0, Math.min(9999, line.sum.worth(v)));
                }
            }
            return 0;
        }

        void hourComes(int s, int t) {
            int[] from = new int[n];
            for (int h = 0; h < n; h++) {
                int[] x = house[h];
                int water = from[h];
                fell += fall[s][t] * x[0];
                if (snow[s][t]) {
                    x[9] += fall[s][t] * x[0];
                } else {
                    int melt = Math.min(x[9], thaw * x[0]);
                    x[9] -= melt;
                    water += fall[s][t] * x[0] + melt;
                }
                if (water == 0) {
                    water = Math.min(x[7], x[8]);
                    x[8] -= water;
                } else {
                    int room = Math.min(Math.max(x[6] - x[8], 0), water);
                    x[8] += room;
                    water -= room;
                }
                int most = Math.floorDiv(x[1] * (10 - x[5]), 10);
                int carried = Math.min(most, water);
                rec[h][t] = new int[] {water, carried, water - carried};
                x[12] += water - carried;
                if (x[4] >= 0) {
                    from[x[4]] += carried;
                } else {
                    int fits = Math.min(carried, Math.max(0, size - has));
                    has += fits;
                    off += carried - fits;
                }
            }
        }

        long blame(int w, int u, int s, int what) {
            if (!isHouse(w) || !isStorm(s) || what < 0 || what > 2 || what < 2 && !isHouse(u)) {
                return -1;
            }
            List<Integer> who = new ArrayList<>();
            for (int h = 0; h < n; h++) {
                if (house[h][5] > 0) {
                    who.add(h);
                }
            }
            if (who.size() > 7) {
                return -1;
            }
            if (what == 2) {
                return overAt(w, s, new ArrayList<>());
            }
            if (!who.contains(u)) {
                return what;
            }
            long[] sum = new long[2];
            orders(who, new ArrayList<>(), w, u, s, sum);
            long a = Math.abs(sum[0]);
            long b = sum[1];
            long g = 1;
            for (long d = 1; d <= b; d++) {
                if (a % d == 0 && b % d == 0) {
                    g = d;
                }
            }
            return sum[what] / g;
        }

        void orders(List<Integer> who, List<Integer> order, int w, int u, int s, long[] sum) {
            if (order.size() == who.size()) {
                int at = order.indexOf(u);
                sum[0] += overAt(w, s, order.subList(0, at + 1)) - overAt(w, s, order.subList(0, at));
                sum[1]++;
                return;
            }
            for (int h : who) {
                if (!order.contains(h)) {
                    order.add(h);
                    orders(who, order, w, u, s, sum);
                    order.remove(order.size() - 1);
                }
            }
        }

        int overAt(int w, int s, List<Integer> clogged) {
            Model m = copyRoofs();
            for (int h = 0; h < n; h++) {
                m.house[h][5] = clogged.contains(h) ? house[h][5] : 0;
            }
            m.comes(s);
            return m.house[w][12];
        }

        int cleanings(int a, int b, int c, int d, int what) {
            int[] row = {a, b, c, d};
            int k = 0;
            while (k < 4 && row[k] != -1) {
                if (!isStorm(row[k])) {
                    return -1;
                }
                k++;
            }
            if (k == 0 || n > 4 || what != 0 && (what < 10 || what >= 10 + k)) {
                return -1;
            }
            int[] best = null;
            for (int all = 0; all <= k * n && best == null; all++) {
                best = clean(this, row, k, 0, all, new int[k]);
            }
            if (best == null) {
                return -1;
            }
            int sum = 0;
            for (int set : best) {
                sum += Integer.bitCount(set);
            }
            return what == 0 ? sum : best[what - 10];
        }

        static int[] clean(Model m, int[] row, int k, int i, int left, int[] sets) {
            if (i == k) {
                return left == 0 ? sets.clone() : null;
            }
            for (int set = 0; set < 1 << m.n; set++) {
                if (Integer.bitCount(set) <= left) {
                    Model c = m.copyRoofs();
                    for (int h = 0; h < m.n; h++) {
                        if ((set >> h & 1) == 1) {
                            c.house[h][5] = 0;
                        }
                    }
                    sets[i] = set;
                    if (c.comes(row[i]) == 0) {
                        int[] found = clean(c, row, k, i + 1, left - Integer.bitCount(set), sets);
                        if (found != null) {
                            return found;
                        }
                    }
                }
            }
            return null;
        }

        int gutters(int s, int what) {
            if (!isStorm(s) || what != 0 && !isHouse(what - 10)) {
                return -1;
            }
            Model m = copyRoofs();
            for (int h = 0; h < n; h++) {
                m.house[h][1] = 1000000;
                m.house[h][5] = 0;
                m.house[h][6] = 0;
                m.house[h][7] = 0;
                m.house[h][8] = 0;
                m.house[h][9] = 0;
            }
            m.comes(s);
            int price = 0;
            int[] most = new int[n];
            for (int h = 0; h < n; h++) {
                for (int t = 0; t < hours[s]; t++) {
                    most[h] = Math.max(most[h], m.rec[h][t][0]);
                }
                price += Math.max(0, most[h] - house[h][1]) * house[h][3];
            }
            return what == 0 ? price : most[what - 10];
        }

        int stains(int set, int what) {
            if (n > 8 || set < 0 || set >= 1 << n || what < 0 || what > 3) {
                return -2;
            }
            int[] told = {0, -1, -1, 0};
            for (int s = 0; s < storms; s++) {
                for (int clogged = 0; clogged < 1 << n; clogged++) {
                    Model m = copyRoofs();
                    for (int h = 0; h < n; h++) {
                        m.house[h][5] = (clogged >> h & 1) * 10;
                        m.house[h][8] = 0;
                        m.house[h][9] = 0;
                    }
                    m.comes(s);
                    int wet = 0;
                    for (int h = 0; h < n; h++) {
                        wet += m.house[h][12] > 0 ? 1 << h : 0;
                    }
                    if (wet == set) {
                        told[3] = told[0] == 0 ? clogged : told[3] & clogged;
                        told[1] = told[0] == 0 ? s : told[1];
                        told[2] = told[0] == 0 ? clogged : told[2];
                        told[0]++;
                    }
                }
            }
            return told[what];
        }

        int drain(int s) {
            if (!isStorm(s)) {
                return -1;
            }
            int least = copyRoofs().comes(s);
            int best = -1;
            for (int h = n - 1; h >= 0; h--) {
                Model m = copyRoofs();
                if (m.house[h][4] >= 0) {
                    m.house[h][4] = -1;
                    int over = m.comes(s);
                    if (over < least || over == least && best >= 0) {
                        least = over;
                        best = h;
                    }
                }
            }
            return best;
        }

        int added(int place, int area, int carries, int s) {
            if (n >= 10 || place < 0 || place > n || area < 1 || area > 99 || carries < 0
                    || carries > 9999 || !isStorm(s)) {
                return -1000000000;
            }
            Model m = copyRoofs();
            for (int h = n; h > place; h--) {
                m.house[h] = house[h - 1].clone();
            }
            m.n++;
            for (int h = 0; h < m.n; h++) {
                int on = m.house[h][4];
                m.house[h][4] = on == place ? place : on > place ? on + 1 : on;
            }
            m.house[place] = new int[14];
            m.house[place][0] = area;
            m.house[place][1] = carries;
            m.house[place][4] = place == n ? -1 : place + 1;
            return m.comes(s) - copyRoofs().comes(s);
        }
    }

    private static final class Line {
        Node sum;
        Node when;
    }

    private static final class Node {
        final String op;
        final int value;
        final Node left;
        final Node right;

        Node(String op, int value, Node left, Node right) {
            this.op = op;
            this.value = value;
            this.left = left;
            this.right = right;
        }

        int worth(int[] v) {
            int a = left == null ? 0 : left.worth(v);
            int b = right == null ? 0 : right.worth(v);
            switch (op) {
                case "number": return value;
                case "measure": return v[value];
                case "+": return a + b;
                case "-": return a - b;
                case "*": return a * b;
                case "/": return a / b;
                case "<": return a < b ? 1 : 0;
                case "=": return a == b ? 1 : 0;
                case ">": return a > b ? 1 : 0;
                case "not": return a == 0 ? 1 : 0;
                case "and": return a * b;
                default: return a + b > 0 ? 1 : 0;
            }
        }
    }

    private static final class Fault extends RuntimeException {
        private static final long serialVersionUID = 1L;
        final int fault;
        final int place;

        Fault(int fault, int place) {
            this.fault = fault;
            this.place = place;
        }
    }

    /** The text read by descent, one method for each of the grammar's letters. */
    private static final class Descent {
        static final List<String> MEASURES =
            List.of("wet", "clog", "own", "near", "far", "above", "area", "held");
        static final List<String> OTHERS = List.of("pay", "when", "or", "and", "not");
        final String text;
        int at;
        int open;

        Descent(String text) {
            this.text = text;
        }

        void blanks() {
            while (at < text.length() && " \n".indexOf(text.charAt(at)) >= 0) {
                at++;
            }
        }

        String peek() {
            blanks();
            int to = at;
            if (at == text.length()) {
                return "end";
            }
            while (to < text.length() && isLetter(text.charAt(to))) {
                to++;
            }
            if (to > at) {
                String word = text.substring(at, to);
                return MEASURES.contains(word) || OTHERS.contains(word) ? word : "?" + word;
            }
            while (to < text.length() && isDigit(text.charAt(to))) {
                to++;
            }
            if (to > at) {
                return to - at > 4 ? "?" : text.substring(at, to);
            }
            return text.substring(at, at + 1);
        }

        static boolean isLetter(char c) {
            return c >= 'a' && c <= 'z' || c >= 'A' && c <= 'Z';
        }

        static boolean isDigit(char c) {
            return c >= '0' && c <= '9';
        }

        static boolean isNumber(String token) {
            return isDigit(token.charAt(0));
        }

        boolean on(String token) {
            if (!peek().equals(token)) {
                return false;
            }
            at += token.length();
            return true;
        }

        void must(String token) {
            if (!on(token)) {
                throw new Fault(1, at);
            }
        }

        List<Line> law() {
            List<Line> lines = new ArrayList<>();
            while (!peek().equals("end")) {
                int place = at;
                must("pay");
                if (lines.size() == 16) {
                    throw new Fault(3, place);
                }
                Line line = new Line();
                line.sum = e();
                if (on("when")) {
                    line.when = b();
                }
                must(";");
                lines.add(line);
            }
            return lines;
        }

        Node b() {
            Node left = a();
            while (on("or")) {
                left = new Node("or", 0, left, a());
            }
            return left;
        }

        Node a() {
            Node left = c();
            while (on("and")) {
                left = new Node("and", 0, left, c());
            }
            return left;
        }

        Node c() {
            String token = peek();
            if (token.equals("not") || token.equals("(")) {
                if (open == 8) {
                    throw new Fault(3, at);
                }
                open++;
                on(token);
                Node inner = token.equals("not") ? new Node("not", 0, c(), null) : b();
                if (token.equals("(")) {
                    must(")");
                }
                open--;
                return inner;
            }
            Node left = e();
            String sign = peek();
            if (!sign.equals("<") && !sign.equals("=") && !sign.equals(">")) {
                throw new Fault(1, at);
            }
            on(sign);
            return new Node(sign, 0, left, e());
        }

        Node e() {
            Node left = t();
            for (String sign = peek(); sign.equals("+") || sign.equals("-"); sign = peek()) {
                on(sign);
                left = new Node(sign, 0, left, t());
            }
            return left;
        }

        Node t() {
            Node left = u();
            for (String sign = peek(); sign.equals("*") || sign.equals("/"); sign = peek()) {
                on(sign);
                if (sign.equals("/")) {
                    String token = peek();
                    if (!isNumber(token)) {
                        throw new Fault(1, at);
                    }
                    if (Integer.parseInt(token) == 0) {
                        throw new Fault(2, at);
                    }
                }
                left = new Node(sign, 0, left, u());
            }
            return left;
        }

        Node u() {
            String token = peek();
            int measure = MEASURES.indexOf(token);
            if (isNumber(token)) {
                on(token);
                return new Node("number", Integer.parseInt(token), null, null);
            }
            if (measure < 0) {
                throw new Fault(1, at);
            }
            on(token);
            return new Node("measure", measure, null, null);
        }
    }

    /** One run: a class and a model under the same calls. */
    private static final class Run {
        final int seed;
        final Random random;
        final DrinkingRoofs x = new DrinkingRoofs();
        final Model m = new Model();
        final int houses;
        int dear;

        Run(int seed) {
            this.seed = seed;
            random = new Random(seed);
            houses = 1 + random.nextInt(seed % 3 == 0 ? 10 : 5);
        }

        int to(int most) {
            return random.nextInt(most + 1);
        }

        /** Mostly a number up to most, seldom one beside it or far off. */
        int about(int least, int most) {
            int turn = to(19);
            if (turn == 0) {
                return least - 1;
            }
            if (turn == 1) {
                return most + 1;
            }
            return to(199) == 0 ? random.nextInt() : least + to(Math.max(0, most - least));
        }

        void due(String call, long got, long want) {
            if (got != want) {
                wrong++;
                System.out.println("seed " + seed + ": " + call + " answered " + got
                    + ", the model " + want);
            }
        }

        void due(String call, boolean got, boolean want) {
            due(call, got ? 1 : 0, want ? 1 : 0);
        }

        void go() {
            for (int h = 0; h < houses; h++) {
                house();
                next();
            }
            for (int s = 0; s < 4; s++) {
                storm();
                for (int t = 0; t < 6; t++) {
                    fall();
                }
            }
            text();
            for (int call = 0; call < CALLS; call++) {
                switch (to(24)) {
                    case 0: house(); break;
                    case 1: next(); break;
                    case 2: case 3: case 4: case 5: tell(); break;
                    case 6: storm(); break;
                    case 7: case 8: fall(); break;
                    case 9: text(); break;
                    case 10: case 11: comes(); break;
                    case 12: case 13: blame(); break;
                    case 14: case 15: cleanings(); break;
                    case 16: gutters(); break;
                    case 17: case 18: stains(); break;
                    case 19: case 20: drain(); break;
                    case 21: case 22: added(); break;
                    case 23: image(); break;
                    default: tape(); break;
                }
                ask();
            }
            all();
        }

        void house() {
            if (m.n >= houses && to(9) > 0) {
                return;
            }
            int area = about(1, to(3) == 0 ? 99 : 20);
            int carries = about(0, to(3) == 0 ? 9999 : 300);
            int leaves = about(0, to(3) == 0 ? 10 : 2);
            int price = about(0, 99);
            int want = -1;
            if (m.n < 10 && area >= 1 && area <= 99 && carries >= 0 && carries <= 9999
                    && leaves >= 0 && leaves <= 10 && price >= 0 && price <= 99) {
                m.house[m.n] = new int[] {area, carries, leaves, price, -1, 0, 0, 0, 0, 0, 0, 0, 0, 0};
                want = m.n++;
            }
            due("house", x.house(area, carries, leaves, price), want);
        }

        void next() {
            int h = about(0, m.n - 1);
            int on = to(4) == 0 ? -1 : about(h + 1, m.n - 1);
            boolean want = m.isHouse(h) && (on == -1 || on > h && on < m.n);
            if (want) {
                m.house[h][4] = on;
            }
            due("next", x.next(h, on), want);
        }

        void tell() {
            int h = about(0, m.n - 1);
            int what = about(0, 6);
            int[] most = {10, 9999, 10, 999, 999, 999999, 9};
            int[] often = {10, 300, 2, 150, 60, 5000, 3};
            int[] column = {5, 1, 2, 6, 7};
            int v = about(0, what < 0 || what > 6 ? 9 : to(4) == 0 ? most[what] : often[what]);
            boolean want = what >= 0 && what <= 6 && v >= 0 && v <= most[what]
                && (what > 4 || m.isHouse(h));
            if (want && what == 5) {
                m.size = v;
            } else if (want && what == 6) {
                m.thaw = v;
            } else if (want) {
                m.house[h][column[what]] = v;
            }
            due("tell", x.tell(h, what, v), want);
        }

        void storm() {
            int hours = about(1, 12);
            int want = -1;
            if (m.storms < 10 && hours >= 1 && hours <= 12) {
                m.hours[m.storms] = hours;
                m.fall[m.storms] = new int[12];
                m.snow[m.storms] = new boolean[12];
                want = m.storms++;
            }
            due("storm", x.storm(hours), want);
        }

        void fall() {
            int s = about(0, m.storms - 1);
            int t = m.isStorm(s) ? about(0, m.hours[s] - 1) : to(12);
            int v = about(0, to(3) == 0 ? 99 : to(1) * 12);
            boolean snow = to(3) == 0;
            boolean want = m.isStorm(s) && t >= 0 && t < m.hours[s] && v >= 0 && v <= 99;
            if (want) {
                m.fall[s][t] = v;
                m.snow[s][t] = snow;
            }
            due("fall", x.fall(s, t, v, snow), want);
        }

        void feed(String twenty) {
            int[] n = new int[5];
            for (int i = 0; i < 20; i++) {
                n[i / 4] = n[i / 4] << 8 | twenty.charAt(i) & 255;
            }
            int want = -1;
            if (m.tape.length() + 20 <= 400) {
                m.tape += twenty;
                want = m.tape.length();
            }
            due("feed", x.feed(n[0], n[1], n[2], n[3], n[4]), want);
        }

        void cut(int n) {
            boolean want = n >= 0 && n <= m.tape.length();
            if (want) {
                m.tape = m.tape.substring(0, n);
            }
            due("end", x.end(n), want);
        }

        void tape() {
            feed("pay wet+1 when 1=1; ");
            if (to(1) == 0) {
                cut(about(0, m.tape.length()));
            }
        }

        void text() {
            StringBuilder text = new StringBuilder(m.tape.isEmpty() ? drawLaw() : "");
            int long0 = text.length();
            while (text.length() % 20 != 0) {
                text.append(' ');
            }
            for (int at = 0; at < text.length() && at < 400; at += 20) {
                feed(text.substring(at, at + 20));
            }
            if (long0 > 0) {
                cut(Math.min(400, long0));
            }
            read();
        }

        void read() {
            int want = -1;
            m.fault = 0;
            m.place = -1;
            try {
                m.law = new Descent(m.tape).law();
                want = m.law.size();
            } catch (Fault fault) {
                m.fault = fault.fault;
                m.place = fault.place;
            }
            String text = m.tape;
            m.tape = "";
            due("text of '" + text + "'", x.text(), want);
            due("fault of '" + text + "'", x.fault(0), m.fault);
            due("place in '" + text + "'", x.fault(1), m.place);
            due("another fault", x.fault(2), -1);
        }

        String drawLaw() {
            StringBuilder law = new StringBuilder();
            boolean many = to(6) == 0;
            for (int lines = many ? 14 + to(4) : to(4); lines > 0; lines--) {
                law.append("pay ").append(many ? drawUnit() : drawSum());
                if (!many && to(3) > 0) {
                    law.append(to(1) == 0 ? " when " : " when\n").append(drawCase(to(14)));
                }
                law.append(';');
            }
            for (int slips = to(2) == 0 ? 1 + to(1) : 0; slips > 0 && law.length() > 0; slips--) {
                int at = to(law.length() - 1);
                String signs = ";+-*/()<=>0 \npw1X\t" + (char) 233;
                switch (to(2)) {
                    case 0: law.deleteCharAt(at); break;
                    case 1: law.insert(at, signs.charAt(to(signs.length() - 1))); break;
                    default: law.setCharAt(at, signs.charAt(to(signs.length() - 1))); break;
                }
            }
            return law.toString();
        }

        String drawUnit() {
            return to(1) == 0 ? "" + to(to(1) == 0 ? 9999 : 20)
                : Descent.MEASURES.get(to(Descent.MEASURES.size() - 1));
        }

        String drawSum() {
            StringBuilder sum = new StringBuilder(drawUnit());
            for (int more = to(3); more > 0; more--) {
                int at = to(3);
                String sign = "+-*/".substring(at, at + 1);
                sum.append(sign).append(sign.equals("/") ? "" + to(40) : drawUnit());
            }
            return sum.toString();
        }

        String drawCase(int deep) {
            switch (deep == 0 ? 0 : to(5)) {
                case 1: return "(" + drawCase(deep - 1) + ")";
                case 2: return "not " + drawCase(deep - 1);
                case 3: return drawCase(deep / 2) + " and " + drawCase(deep / 2);
                case 4: return drawCase(deep / 2) + " or " + drawCase(deep / 2);
                case 5: return "not(" + drawCase(deep - 1) + ")";
                default: return drawSum() + "<=>".charAt(to(2)) + drawSum();
            }
        }

        void comes() {
            int s = about(0, m.storms - 1);
            due("comes", x.comes(s), m.comes(s));
        }

        void blame() {
            int w = about(0, m.n - 1);
            int u = about(0, m.n - 1);
            int s = about(0, m.storms - 1);
            int what = about(0, 2);
            int clogged = 0;
            for (int h = 0; h < m.n; h++) {
                clogged += m.house[h][5] > 0 ? 1 : 0;
            }
            if (clogged < 6 || clogged > 7) {
                due("blame", x.blame(w, u, s, what), m.blame(w, u, s, what));
            }
        }

        void cleanings() {
            int[] row = new int[4];
            for (int i = 0; i < 4; i++) {
                row[i] = to(3) == 0 ? -1 : about(0, m.storms - 1);
            }
            int what = to(1) == 0 ? 0 : about(10, 13);
            // All the model's ways for four houses and four storms take long.
            if (m.n < 4 || row[3] == -1 || dear++ < 2) {
                due("cleanings", x.cleanings(row[0], row[1], row[2], row[3], what),
                    m.cleanings(row[0], row[1], row[2], row[3], what));
            }
        }

        void gutters() {
            int s = about(0, m.storms - 1);
            int what = to(1) == 0 ? about(0, 1) : about(10, 9 + m.n);
            due("gutters", x.gutters(s, what), m.gutters(s, what));
        }

        void stains() {
            int set = about(0, (1 << m.n) - 1);
            for (int what = -1; what <= 4; what++) {
                if (m.n < 7 || what == 2) {
                    due("stains", x.stains(set, what), m.stains(set, what));
                }
            }
        }

        void drain() {
            int s = about(0, m.storms - 1);
            due("drain", x.drain(s), m.drain(s));
        }

        void added() {
            int place = about(0, m.n);
            int area = about(1, 99);
            int carries = about(0, to(1) == 0 ? 9999 : 300);
            int s = about(0, m.storms - 1);
            due("added", x.added(place, area, carries, s), m.added(place, area, carries, s));
        }

        void image() {
            boolean taken = to(1) == 0;
            boolean want = taken || m.image != null;
            if (taken) {
                m.image = m.copyRoofs();
            } else if (want) {
                m.back(m.image);
            }
            due("image", x.image(taken), want);
        }

        void askOf(int h, int what) {
            int want = m.isHouse(h) && what >= 0 && what < 14 ? m.house[h][what] : -1000000000;
            due("of(" + h + ", " + what + ")", x.of(h, what), want);
        }

        void askHour(int h, int t, int what) {
            boolean can = h >= 0 && h < m.lastN && t >= 0 && t < m.lastHours && what >= 0 && what < 3;
            due("hour(" + h + ", " + t + ", " + what + ")", x.hour(h, t, what),
                can ? m.rec[h][t][what] : -1);
        }

        void askLook(int what) {
            int[] told = {m.n, m.storms, m.has, m.size, m.off, m.came, m.law.size(), m.thaw, m.fell};
            int want = what >= 0 && what < told.length ? told[what] : -1;
            if (what >= 10 && what < 10 + m.storms) {
                want = m.hours[what - 10];
            }
            if (what >= 100 && what < 100 + 12 * m.storms) {
                int s = (what - 100) / 12;
                int t = (what - 100) % 12;
                want = t < m.hours[s] ? m.fall[s][t] + (m.snow[s][t] ? 100 : 0) : -1;
            }
            due("look(" + what + ")", x.look(what), want);
        }

        void ask() {
            askOf(about(0, m.n - 1), about(0, 13));
            askHour(about(0, m.n - 1), about(0, m.lastHours - 1), about(0, 2));
            askLook(about(0, 230));
        }

        void all() {
            for (int h = -1; h <= 11; h++) {
                for (int what = -1; what <= 14; what++) {
                    askOf(h, what);
                }
                for (int t = -1; t <= 12; t++) {
                    for (int what = -1; what <= 3; what++) {
                        askHour(h, t, what);
                    }
                }
            }
            for (int what = -2; what < 240; what++) {
                askLook(what);
            }
        }
    }

    public static void main(String[] args) {
        for (int seed = 1; seed <= RUNS && wrong < 50; seed++) {
            new Run(seed).go();
        }
        System.out.println(wrong == 0 ? "all answers are the model's"
            : wrong + " answers are not the model's");
        if (wrong != 0) {
            System.exit(1);
        }
    }
}
