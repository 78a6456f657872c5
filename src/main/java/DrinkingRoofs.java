/**
 * Roofs that drink from each other: houses whose gutters empty on roofs further down or into the
 * cistern, the storms that come over them, the law by which others pay for a ceiling, and what is
 * worked out in thought. Every row is made with the object, so that no call makes another one.
 */
public final class DrinkingRoofs {
    public static final int NONE = -1;

    /** The answer where NONE itself could be a true one. */
    private static final int NOTHING = NONE - 999999999;

    private static final int HOUSES = 10;
    private static final int STORMS = 10;
    private static final int HOURS = 12;
    private static final int MOST_AREA = 99;
    private static final int MOST_CARRIES = 9999;
    private static final int MOST_PRICE = 99;
    private static final int MOST_FALL = 99;
    private static final int MOST_BARREL = 999;
    private static final int MOST_SIZE = 999999;
    private static final int MOST_THAW = 9;
    /** Clogs and leaves are told in tenths. */
    private static final int TENTHS = 10;
    /** A gutter so wide that no storm fills it; ten times as much is still an int. */
    private static final int WIDE = 9999999;

    private static final int TAPE = 400;
    private static final int LINES = 16;
    private static final int MOST_OPEN = 8;
    private static final int MOST_DIGITS = 4;
    /** What may wait at once with eight open: an "or", an "and" and a bracket each, and a sum. */
    private static final int PILE = 40;
    private static final int MOST_PAID = 9999;

    private static final int FAULT_MISPLACED = 1;
    private static final int FAULT_BY_ZERO = 2;
    private static final int FAULT_TOO_MANY = 3;

    private static final int BLAMED = 7;
    private static final int CLEANED = 4;
    private static final int STAINED = 8;

    /** The kinds of tokens: keywords in the order of WORDS, signs in the order of SIGNS. */
    private static final int END = 0;
    private static final int BAD = 1;
    private static final int NUMBER = 2;
    private static final int PAY = 3;
    private static final int WHEN = 4;
    private static final int OR = 5;
    private static final int AND = 6;
    private static final int NOT = 7;
    private static final int WET = 8;
    private static final int CLOG = 9;
    private static final int OWN = 10;
    private static final int NEAR = 11;
    private static final int FAR = 12;
    private static final int ABOVE = 13;
    private static final int AREA = 14;
    private static final int HELD = 15;
    private static final int STOP = 16;
    private static final int PLUS = 17;
    private static final int MINUS = 18;
    private static final int TIMES = 19;
    private static final int PART = 20;
    private static final int OPEN = 21;
    private static final int CLOSE = 22;
    private static final int LESS = 23;
    private static final int EQUAL = 24;
    private static final int MORE = 25;

    private static final int WORD_WIDTH = 5;
    private static final String WORDS =
        "pay  when or   and  not  wet  clog own  near far  abovearea held ";
    private static final String SIGNS = ";+-*/()<=>";

    /** How closely each kind of token binds what stands beside it (0: it binds nothing). */
    private static final int[] STRENGTH = {
        0, 0, 0, 0, 0, 1, 2, 3, 0, 0, 0, 0, 0, 0, 0, 0, 0, 5, 5, 6, 6, 0, 0, 4, 4, 4};

    /** In how many orders so many things may come. */
    private static final int[] ORDERS = {1, 1, 2, 6, 24, 120, 720, 5040};

    private final Street now = new Street();
    private final Street kept = new Street();
    private final Roofs thought = new Roofs();
    private final Tape tape = new Tape();
    private final Reader reader = new Reader();
    private final Blame blame = new Blame();
    private final Cleaning cleaning = new Cleaning();
    private final Stains stains = new Stains();
    private boolean imageTaken;

    public DrinkingRoofs() {
        imageTaken = false;
    }

    public int house(int area, int carries, int leaves, int price) {
        if (now.roofs.count >= HOUSES || !canStand(area, carries)
                || !within(leaves, 0, TENTHS) || !within(price, 0, MOST_PRICE)) {
            return NONE;
        }
        int number = now.roofs.count;
        now.roofs.houses[number].build(area, carries, leaves, price);
        now.roofs.count = number + 1;
        return number;
    }

    public boolean next(int house, int on) {
        if (!isHouse(house) || on != NONE && (on <= house || !isHouse(on))) {
            return false;
        }
        now.roofs.houses[house].empties = on;
        return true;
    }

    public boolean tell(int house, int what, int v) {
        switch (what) {
            case 5:
                return tellSize(v);
            case 6:
                return tellThaw(v);
            default:
                return isHouse(house) && now.roofs.houses[house].change(what, v);
        }
    }

    public int storm(int hours) {
        if (now.stormCount >= STORMS || !within(hours, 1, HOURS)) {
            return NONE;
        }
        int number = now.stormCount;
        now.storms[number].brew(hours);
        now.stormCount = number + 1;
        return number;
    }

    public boolean fall(int storm, int hour, int v, boolean snow) {
        if (!isStorm(storm) || !within(v, 0, MOST_FALL)) {
            return false;
        }
        Storm told = now.storms[storm];
        if (!within(hour, 0, told.hours - 1)) {
            return false;
        }
        told.falls[hour] = v;
        told.snows[hour] = snow;
        return true;
    }

    public int feed(int a, int b, int c, int d, int e) {
        if (!tape.hasRoom(20)) {
            return NONE;
        }
        tape.add(a);
        tape.add(b);
        tape.add(c);
        tape.add(d);
        tape.add(e);
        return tape.length;
    }

    public boolean end(int n) {
        if (!within(n, 0, tape.length)) {
            return false;
        }
        tape.length = n;
        return true;
    }

    public int text() {
        reader.read(tape);
        tape.length = 0;
        if (reader.fault != 0) {
            return NONE;
        }
        now.law.copy(reader.law);
        return now.law.lines;
    }

    public int fault(int what) {
        switch (what) {
            case 0:
                return reader.fault;
            case 1:
                return reader.faultPlace;
            default:
                return NONE;
        }
    }

    public int comes(int storm) {
        return isStorm(storm) ? now.weather(now.storms[storm]) : NONE;
    }

    public int of(int house, int what) {
        return isHouse(house) ? now.roofs.houses[house].told(what) : NOTHING;
    }

    public int hour(int house, int hour, int what) {
        if (!within(house, 0, now.latestHouses - 1) || !within(hour, 0, now.latestHours - 1)) {
            return NONE;
        }
        return now.roofs.houses[house].toldOf(hour, what);
    }

    public long blame(int w, int u, int storm, int what) {
        if (!isHouse(w) || !isStorm(storm) || !within(what, 0, 2) || what != 2 && !isHouse(u)) {
            return NONE;
        }
        if (!blame.choose(now.roofs)) {
            return NONE;
        }
        if (what == 2) {
            return blame.overWith(0, w, now.roofs, thought, now.storms[storm]);
        }
        blame.weigh(w, u, now.roofs, thought, now.storms[storm]);
        return what == 0 ? blame.shareAbove : blame.shareBelow;
    }

    public int cleanings(int a, int b, int c, int d, int what) {
        if (now.roofs.count > CLEANED || !planStorms(a, b, c, d)) {
            return NONE;
        }
        int set = what - 10;
        if (what != 0 && !within(set, 0, cleaning.stormCount - 1)) {
            return NONE;
        }
        cleaning.rain(now, thought);
        if (!cleaning.plan(now.roofs)) {
            return NONE;
        }
        return what == 0 ? cleaning.fewest : cleaning.sets[set];
    }

    public int gutters(int storm, int what) {
        int house = what - 10;
        if (!isStorm(storm) || what != 0 && !isHouse(house)) {
            return NONE;
        }
        thought.imagine(now.roofs);
        thought.widen();
        thought.strip();
        thought.pour(now.storms[storm], HOUSES);
        return what == 0 ? widerPrice() : thought.houses[house].mostGot;
    }

    public int stains(int set, int what) {
        if (now.roofs.count > STAINED || !within(set, 0, (1 << now.roofs.count) - 1)
                || !within(what, 0, 3)) {
            return NONE - 1;
        }
        stains.explain(set, now, thought);
        return stains.told(what);
    }

    public int drain(int storm) {
        if (!isStorm(storm)) {
            return NONE;
        }
        Storm over = now.storms[storm];
        int best = NONE;
        int least = overAsNow(over);
        for (int h = 0; h < now.roofs.count; h++) {
            if (now.roofs.houses[h].empties != NONE) {
                int all = overIfDrained(h, over);
                if (all < least) {
                    least = all;
                    best = h;
                }
            }
        }
        return best;
    }

    public int added(int place, int area, int carries, int storm) {
        if (now.roofs.count >= HOUSES || !within(place, 0, now.roofs.count)
                || !canStand(area, carries) || !isStorm(storm)) {
            return NOTHING;
        }
        Storm over = now.storms[storm];
        int without = overAsNow(over);
        thought.imagineAdded(now.roofs, place, area, carries);
        return thought.pour(over, HOUSES) - without;
    }

    public boolean image(boolean taken) {
        if (taken) {
            kept.copy(now);
            imageTaken = true;
        } else if (imageTaken) {
            now.copy(kept);
        }
        return imageTaken;
    }

    public int look(int what) {
        if (within(what, 10, 10 + STORMS - 1)) {
            int storm = what - 10;
            return isStorm(storm) ? now.storms[storm].hours : NONE;
        }
        if (within(what, 100, 100 + STORMS * HOURS - 1)) {
            int storm = (what - 100) / HOURS;
            return isStorm(storm) ? now.storms[storm].told((what - 100) % HOURS) : NONE;
        }
        return now.told(what);
    }

    private static boolean within(int v, int least, int most) {
        return v >= least && v <= most;
    }

    private static boolean canStand(int area, int carries) {
        return within(area, 1, MOST_AREA) && within(carries, 0, MOST_CARRIES);
    }

    private boolean isHouse(int house) {
        return within(house, 0, now.roofs.count - 1);
    }

    private boolean isStorm(int storm) {
        return within(storm, 0, now.stormCount - 1);
    }

    private boolean tellSize(int v) {
        if (!within(v, 0, MOST_SIZE)) {
            return false;
        }
        now.size = v;
        return true;
    }

    private boolean tellThaw(int v) {
        if (!within(v, 0, MOST_THAW)) {
            return false;
        }
        now.roofs.thaw = v;
        return true;
    }

    /** Puts the storms up to the first NONE in a row; false if there is none, or one can't be. */
    private boolean planStorms(int a, int b, int c, int d) {
        cleaning.stormCount = 0;
        return planStorm(a) && (b == NONE
            || planStorm(b) && (c == NONE
            || planStorm(c) && (d == NONE
            || planStorm(d))));
    }

    private boolean planStorm(int storm) {
        if (!isStorm(storm) || cleaning.stormCount >= CLEANED) {
            return false;
        }
        cleaning.storms[cleaning.stormCount] = storm;
        cleaning.stormCount++;
        return true;
    }

    private int widerPrice() {
        int price = 0;
        for (int h = 0; h < now.roofs.count; h++) {
            House told = now.roofs.houses[h];
            price += told.price * Math.max(0, thought.houses[h].mostGot - told.carries);
        }
        return price;
    }

    private int overAsNow(Storm storm) {
        thought.imagine(now.roofs);
        return thought.pour(storm, HOUSES);
    }

    private int overIfDrained(int house, Storm storm) {
        thought.imagine(now.roofs);
        thought.houses[house].empties = NONE;
        return thought.pour(storm, HOUSES);
    }

    /** A house, and what the latest storm over it did hour by hour. */
    private static final class House {
        int area;
        int carries;
        int leaves;
        int price;
        int empties;
        int clog;
        int barrel;
        int let;
        int held;
        int snow;
        int coin;
        int wet;
        int over;
        int dry;
        int mostGot;
        final int[] above = new int[HOURS];
        final int[] got = new int[HOURS];
        final int[] carried = new int[HOURS];
        final int[] spilt = new int[HOURS];

        void build(int toldArea, int toldCarries, int toldLeaves, int toldPrice) {
            area = toldArea;
            carries = toldCarries;
            leaves = toldLeaves;
            price = toldPrice;
            empties = NONE;
            clog = 0;
            barrel = 0;
            let = 0;
            held = 0;
            snow = 0;
            coin = 0;
            wet = 0;
            over = 0;
            dry = 0;
        }

        /** Takes over all that decides how a storm goes. */
        void imagine(House other) {
            area = other.area;
            carries = other.carries;
            empties = other.empties;
            clog = other.clog;
            barrel = other.barrel;
            let = other.let;
            held = other.held;
            snow = other.snow;
        }

        void copy(House other) {
            imagine(other);
            leaves = other.leaves;
            price = other.price;
            coin = other.coin;
            wet = other.wet;
            over = other.over;
            dry = other.dry;
            System.arraycopy(other.got, 0, got, 0, HOURS);
            System.arraycopy(other.carried, 0, carried, 0, HOURS);
            System.arraycopy(other.spilt, 0, spilt, 0, HOURS);
        }

        boolean change(int what, int v) {
            if (!within(v, 0, mostOf(what))) {
                return false;
            }
            switch (what) {
                case 0: clog = v; break;
                case 1: carries = v; break;
                case 2: leaves = v; break;
                case 3: barrel = v; break;
                default: let = v; break;
            }
            return true;
        }

        /** The most that can be told; NONE, below every number told, if that can't be told. */
        private static int mostOf(int what) {
            switch (what) {
                case 0: return TENTHS;
                case 1: return MOST_CARRIES;
                case 2: return TENTHS;
                case 3: return MOST_BARREL;
                case 4: return MOST_BARREL;
                default: return NONE;
            }
        }

        int told(int what) {
            switch (what) {
                case 0: return area;
                case 1: return carries;
                case 2: return leaves;
                case 3: return price;
                case 4: return empties;
                case 5: return clog;
                case 6: return barrel;
                case 7: return let;
                case 8: return held;
                case 9: return snow;
                case 10: return coin;
                case 11: return wet;
                case 12: return over;
                case 13: return dry;
                default: return NOTHING;
            }
        }

        int toldOf(int hour, int what) {
            switch (what) {
                case 0: return got[hour];
                case 1: return carried[hour];
                case 2: return spilt[hour];
                default: return NONE;
            }
        }

        int carriesAt(int clogged) {
            return carries * (TENTHS - clogged) / TENTHS;
        }

        /** A storm goes over the roof; what comes from above in each hour is known already. */
        void drink(Storm storm, int thaw) {
            int most = carriesAt(clog);
            over = 0;
            mostGot = 0;
            for (int t = 0; t < storm.hours; t++) {
                int gets = passBarrel(above[t] + land(storm, t, thaw));
                got[t] = gets;
                carried[t] = Math.min(gets, most);
                spilt[t] = gets - carried[t];
                over += spilt[t];
                mostGot = Math.max(mostGot, gets);
            }
        }

        /** What comes to the gutter from the sky and the roof's own snow. */
        private int land(Storm storm, int hour, int thaw) {
            int fallen = storm.falls[hour] * area;
            if (storm.snows[hour]) {
                snow += fallen;
                return 0;
            }
            int melts = Math.min(snow, thaw * area);
            snow -= melts;
            return fallen + melts;
        }

        private int passBarrel(int came) {
            if (came == 0) {
                int goes = Math.min(let, held);
                held -= goes;
                return goes;
            }
            int stays = Math.min(came, Math.max(0, barrel - held));
            held += stays;
            return came - stays;
        }

        int carriedInAll(int hours) {
            int all = 0;
            for (int t = 0; t < hours; t++) {
                all += carried[t];
            }
            return all;
        }

        void closeStorm() {
            clog = Math.min(TENTHS, clog + leaves);
            wet += over;
            dry = over == 0 ? dry + 1 : 0;
        }
    }

    /** A storm as it was told. */
    private static final class Storm {
        int hours;
        final int[] falls = new int[HOURS];
        final boolean[] snows = new boolean[HOURS];

        void brew(int toldHours) {
            hours = toldHours;
            for (int t = 0; t < HOURS; t++) {
                falls[t] = 0;
                snows[t] = false;
            }
        }

        void copy(Storm other) {
            hours = other.hours;
            for (int t = 0; t < HOURS; t++) {
                falls[t] = other.falls[t];
                snows[t] = other.snows[t];
            }
        }

        int told(int hour) {
            if (!within(hour, 0, hours - 1)) {
                return NONE;
            }
            return snows[hour] ? 100 + falls[hour] : falls[hour];
        }

        int fallInAll() {
            int all = 0;
            for (int t = 0; t < hours; t++) {
                all += falls[t];
            }
            return all;
        }
    }

    /** The houses of a street and the storms over them; what is thought is thought on such too. */
    private static final class Roofs {
        int count;
        int thaw = 1;
        final House[] houses = new House[HOUSES];

        Roofs() {
            for (int h = 0; h < HOUSES; h++) {
                houses[h] = new House();
            }
        }

        void copy(Roofs other) {
            count = other.count;
            thaw = other.thaw;
            for (int h = 0; h < count; h++) {
                houses[h].copy(other.houses[h]);
            }
        }

        /** Takes over all that decides how a storm goes. */
        void imagine(Roofs other) {
            count = other.count;
            thaw = other.thaw;
            for (int h = 0; h < count; h++) {
                houses[h].imagine(other.houses[h]);
            }
        }

        /** The houses of others, fewer than ten, with a new one at a place among them. */
        void imagineAdded(Roofs other, int place, int area, int carries) {
            int old = Math.min(other.count, HOUSES - 1);
            count = old + 1;
            thaw = other.thaw;
            for (int h = 0; h < old; h++) {
                House moved = houses[h < place ? h : h + 1];
                moved.imagine(other.houses[h]);
                // What emptied on the one that stood there has the new one's number already.
                if (moved.empties > place) {
                    moved.empties++;
                }
            }
            houses[place].build(area, carries, 0, 0);
            if (place < old) {
                houses[place].empties = place + 1;
            }
        }

        /** Gutters that never run over. */
        void widen() {
            for (int h = 0; h < count; h++) {
                houses[h].carries = WIDE;
                houses[h].clog = 0;
            }
        }

        /** Takes barrels, what is in them and the snow away. */
        void strip() {
            for (int h = 0; h < count; h++) {
                houses[h].barrel = 0;
                houses[h].held = 0;
                houses[h].snow = 0;
            }
        }

        /** A storm goes over the houses up to a last one: how much runs over at them. */
        int pour(Storm storm, int last) {
            int all = 0;
            for (int h = 0; h <= last && h < count; h++) {
                pass(h, storm);
                all += houses[h].over;
            }
            return all;
        }

        /**
         * A storm goes over one house. All its hours at once, not hour by hour over the street:
         * gutters empty on greater numbers alone, so a house's storm asks only those above it.
         */
        void pass(int house, Storm storm) {
            House drinker = houses[house];
            for (int t = 0; t < storm.hours; t++) {
                drinker.above[t] = 0;
            }
            for (int h = 0; h < house; h++) {
                if (houses[h].empties == house) {
                    for (int t = 0; t < storm.hours; t++) {
                        drinker.above[t] += houses[h].carried[t];
                    }
                }
            }
            drinker.drink(storm, thaw);
        }
    }

    /** All that is and was told but the tape; the image is such a street too. */
    private static final class Street {
        final Roofs roofs = new Roofs();
        int stormCount;
        final Storm[] storms = new Storm[STORMS];
        final Law law = new Law();
        int size = MOST_SIZE;
        int has;
        int off;
        int stormsCame;
        int fell;
        int latestHouses;
        int latestHours;
        private final int[] measures = new int[HELD + 1];

        Street() {
            for (int s = 0; s < STORMS; s++) {
                storms[s] = new Storm();
            }
        }

        void copy(Street other) {
            roofs.copy(other.roofs);
            stormCount = other.stormCount;
            for (int s = 0; s < stormCount; s++) {
                storms[s].copy(other.storms[s]);
            }
            law.copy(other.law);
            size = other.size;
            has = other.has;
            off = other.off;
            stormsCame = other.stormsCame;
            fell = other.fell;
            latestHouses = other.latestHouses;
            latestHours = other.latestHours;
        }

        int told(int what) {
            switch (what) {
                case 0: return roofs.count;
                case 1: return stormCount;
                case 2: return has;
                case 3: return size;
                case 4: return off;
                case 5: return stormsCame;
                case 6: return law.lines;
                case 7: return roofs.thaw;
                case 8: return fell;
                default: return NONE;
            }
        }

        /** A storm comes: how much ran over in all. */
        int weather(Storm storm) {
            int all = roofs.pour(storm, HOUSES);
            int fallen = storm.fallInAll();
            for (int h = 0; h < roofs.count; h++) {
                House house = roofs.houses[h];
                fell += fallen * house.area;
                if (house.empties == NONE) {
                    store(house.carriedInAll(storm.hours));
                }
            }
            stormsCame++;
            latestHouses = roofs.count;
            latestHours = storm.hours;
            // The law asks for the clogs of the storm, so it goes ahead of the leaves.
            settle();
            for (int h = 0; h < roofs.count; h++) {
                roofs.houses[h].closeStorm();
            }
            return all;
        }

        private void store(int water) {
            int stays = Math.min(water, Math.max(0, size - has));
            has += stays;
            off += water - stays;
        }

        private void settle() {
            for (int w = 0; w < roofs.count; w++) {
                if (roofs.houses[w].over > 0) {
                    for (int u = 0; u < roofs.count; u++) {
                        if (u != w) {
                            pay(u, w);
                        }
                    }
                }
            }
        }

        private void pay(int u, int w) {
            House payer = roofs.houses[u];
            House wet = roofs.houses[w];
            measures[WET] = wet.over;
            measures[CLOG] = payer.clog;
            measures[OWN] = wet.clog;
            measures[NEAR] = payer.empties == w ? 1 : 0;
            measures[FAR] = Math.abs(u - w) - 1;
            measures[ABOVE] = u < w ? 1 : 0;
            measures[AREA] = payer.area;
            measures[HELD] = payer.held;
            int paid = law.asks(measures);
            payer.coin -= paid;
            wet.coin += paid;
        }
    }

    /**
     * A text as it was read: of each line the sum and what stands behind its "when", each with its
     * operators behind what they bind. A code of 0 or more is a number, one below 0 a kind.
     */
    private static final class Law {
        int lines;
        int length;
        final int[] code = new int[TAPE];
        final int[] sumFrom = new int[LINES + 1];
        final int[] whenFrom = new int[LINES + 1];
        private final int[] stack = new int[PILE];

        void clear() {
            lines = 0;
            length = 0;
            sumFrom[0] = 0;
        }

        void copy(Law other) {
            lines = other.lines;
            length = other.length;
            System.arraycopy(other.code, 0, code, 0, TAPE);
            System.arraycopy(other.sumFrom, 0, sumFrom, 0, LINES + 1);
            System.arraycopy(other.whenFrom, 0, whenFrom, 0, LINES + 1);
        }

        void add(int one) {
            if (length < TAPE) {
                code[length] = one;
                length++;
            }
        }

        /** The line's sum ends here; what follows is asked. */
        void closeSum() {
            if (lines < LINES) {
                whenFrom[lines] = length;
            }
        }

        void closeLine() {
            if (lines < LINES) {
                lines++;
                sumFrom[lines] = length;
            }
        }

        int asks(int[] measures) {
            for (int i = 0; i < lines && i < LINES; i++) {
                int when = whenFrom[i];
                int stop = sumFrom[i + 1];
                if (when == stop || worth(when, stop, measures) != 0) {
                    int paid = worth(sumFrom[i], when, measures);
                    return Math.max(0, Math.min(MOST_PAID, paid));
                }
            }
            return 0;
        }

        private int worth(int start, int stop, int[] measures) {
            int height = 0;
            for (int i = start; i < stop && i < TAPE; i++) {
                int one = code[i];
                if (one >= 0 && height < PILE) {
                    stack[height] = one;
                    height++;
                } else if (within(-one, WET, HELD) && height < PILE) {
                    stack[height] = measures[-one];
                    height++;
                } else if (-one == NOT && height > 0) {
                    stack[height - 1] = 1 - stack[height - 1];
                } else if (height > 1) {
                    height--;
                    stack[height - 1] = joined(-one, stack[height - 1], stack[height]);
                }
            }
            return stack[0];
        }

        private static int joined(int kind, int a, int b) {
            switch (kind) {
                case PLUS: return a + b;
                case MINUS: return a - b;
                case TIMES: return a * b;
                case PART: return b == 0 ? 0 : a / b;
                case LESS: return a < b ? 1 : 0;
                case EQUAL: return a == b ? 1 : 0;
                case MORE: return a > b ? 1 : 0;
                case AND: return a & b;
                case OR: return a | b;
                default: return 0;
            }
        }
    }

    /** The bytes that were fed, and the tokens in them one after the other. */
    private static final class Tape {
        int length;
        private final byte[] bytes = new byte[TAPE];
        private int at;
        int kind;
        int value;
        int place;

        boolean hasRoom(int more) {
            return length + more <= TAPE;
        }

        void add(int word) {
            for (int shift = 24; shift >= 0 && length < TAPE; shift -= 8) {
                bytes[length] = (byte) (word >> shift);
                length++;
            }
        }

        void rewind() {
            at = 0;
        }

        void scan() {
            while (at < length && (bytes[at] == ' ' || bytes[at] == '\n')) {
                at++;
            }
            place = at;
            if (at >= length) {
                kind = END;
            } else if (isLetter(bytes[at])) {
                scanWord();
            } else if (isDigit(bytes[at])) {
                scanNumber();
            } else {
                int sign = bytes[at] > 0 ? SIGNS.indexOf((char) bytes[at]) : -1;
                kind = sign < 0 ? BAD : STOP + sign;
                at++;
            }
        }

        private void scanWord() {
            while (at < length && isLetter(bytes[at])) {
                at++;
            }
            kind = BAD;
            for (int from = 0; from < WORDS.length(); from += WORD_WIDTH) {
                if (isWord(from)) {
                    kind = PAY + from / WORD_WIDTH;
                }
            }
        }

        /** Whether the letters from place up to at are the word that stands there in WORDS. */
        private boolean isWord(int from) {
            int letters = at - place;
            if (letters > WORD_WIDTH) {
                return false;
            }
            for (int i = 0; i < WORD_WIDTH; i++) {
                int letter = i < letters ? bytes[place + i] : ' ';
                if (WORDS.charAt(from + i) != letter) {
                    return false;
                }
            }
            return true;
        }

        private void scanNumber() {
            value = 0;
            while (at < length && isDigit(bytes[at])) {
                value = value * 10 + bytes[at] - '0';
                at++;
            }
            kind = at - place <= MOST_DIGITS ? NUMBER : BAD;
        }

        private static boolean isLetter(int c) {
            return within(c, 'a', 'z') || within(c, 'A', 'Z');
        }

        private static boolean isDigit(int c) {
            return within(c, '0', '9');
        }
    }

    /**
     * Reads the tape as a law, token by token. What may stand next is the state; operators wait on
     * a stack until what binds more closely has been written.
     */
    private static final class Reader {
        private static final int AWAITS_LINE = 0;
        private static final int AWAITS_UNIT = 1;
        private static final int AWAITS_PART = 2;
        private static final int AWAITS_CASE = 3;
        private static final int BEHIND_UNIT = 4;
        private static final int BEHIND_CASE = 5;

        private static final int SIDE_PAY = 0;
        private static final int SIDE_LEFT = 1;
        private static final int SIDE_RIGHT = 2;

        int fault;
        int faultPlace = NONE;
        private int state;
        private int side;
        private int open;
        private int brackets;
        private int waits;
        private final int[] waiting = new int[PILE];
        private boolean ended;
        private int value;
        final Law law = new Law();

        void read(Tape tape) {
            law.clear();
            tape.rewind();
            fault = 0;
            state = AWAITS_LINE;
            waits = 0;
            ended = false;
            for (int n = 0; n <= TAPE && !ended && fault == 0; n++) {
                tape.scan();
                value = tape.value;
                take(tape.kind);
            }
            faultPlace = fault == 0 ? NONE : tape.place;
        }

        private void take(int kind) {
            switch (state) {
                case AWAITS_LINE:
                    takeLine(kind);
                    break;
                case AWAITS_UNIT:
                    takeUnit(kind);
                    break;
                case AWAITS_PART:
                    takePart(kind);
                    break;
                case AWAITS_CASE:
                    takeCase(kind);
                    break;
                case BEHIND_UNIT:
                    if (side == SIDE_RIGHT && !within(kind, PLUS, PART)) {
                        takeBehindCase(kind);
                    } else {
                        takeBehindUnit(kind);
                    }
                    break;
                default:
                    takeBehindCase(kind);
                    break;
            }
        }

        private void takeLine(int kind) {
            if (kind == END) {
                ended = true;
            } else if (kind != PAY) {
                fault = FAULT_MISPLACED;
            } else if (law.lines >= LINES) {
                fault = FAULT_TOO_MANY;
            } else {
                state = AWAITS_UNIT;
                side = SIDE_PAY;
                open = 0;
                brackets = 0;
            }
        }

        private void takeUnit(int kind) {
            if (kind == NUMBER) {
                law.add(value);
                state = BEHIND_UNIT;
            } else if (within(kind, WET, HELD)) {
                law.add(-kind);
                state = BEHIND_UNIT;
            } else {
                fault = FAULT_MISPLACED;
            }
        }

        private void takePart(int kind) {
            if (kind == NUMBER && value == 0) {
                fault = FAULT_BY_ZERO;
            } else if (kind == NUMBER) {
                takeUnit(kind);
            } else {
                fault = FAULT_MISPLACED;
            }
        }

        private void takeCase(int kind) {
            if (kind != NOT && kind != OPEN) {
                side = SIDE_LEFT;
                takeUnit(kind);
            } else if (open >= MOST_OPEN) {
                fault = FAULT_TOO_MANY;
            } else {
                open++;
                brackets += kind == OPEN ? 1 : 0;
                await(kind);
            }
        }

        private void takeBehindUnit(int kind) {
            if (within(kind, PLUS, PART)) {
                join(kind);
                state = kind == PART ? AWAITS_PART : AWAITS_UNIT;
            } else if (side == SIDE_LEFT && within(kind, LESS, MORE)) {
                join(kind);
                side = SIDE_RIGHT;
                state = AWAITS_UNIT;
            } else if (side == SIDE_PAY && (kind == WHEN || kind == STOP)) {
                writeDownTo(0);
                law.closeSum();
                state = AWAITS_CASE;
                if (kind == STOP) {
                    closeLine();
                }
            } else {
                fault = FAULT_MISPLACED;
            }
        }

        private void takeBehindCase(int kind) {
            if (kind == AND || kind == OR) {
                join(kind);
                state = AWAITS_CASE;
            } else if (kind == CLOSE && brackets > 0) {
                closeBracket();
                state = BEHIND_CASE;
            } else if (kind == STOP && brackets == 0) {
                closeLine();
            } else {
                fault = FAULT_MISPLACED;
            }
        }

        private void closeLine() {
            writeDownTo(0);
            law.closeLine();
            state = AWAITS_LINE;
        }

        /** An operator between two sides: what binds its left side as closely is written first. */
        private void join(int kind) {
            writeDownTo(STRENGTH[kind]);
            await(kind);
        }

        private void await(int kind) {
            if (waits < PILE) {
                waiting[waits] = kind;
                waits++;
            }
        }

        /** Writes what waits and binds so closely or more, down to the last open bracket. */
        private void writeDownTo(int strength) {
            while (waits > 0 && waiting[waits - 1] != OPEN
                    && STRENGTH[waiting[waits - 1]] >= strength) {
                waits--;
                open -= waiting[waits] == NOT ? 1 : 0;
                law.add(-waiting[waits]);
            }
        }

        private void closeBracket() {
            writeDownTo(0);
            if (waits > 0) {
                waits--;
                open--;
                brackets--;
            }
        }
    }

    /** Who is to blame for what runs over at a house. */
    private static final class Blame {
        long shareAbove;
        long shareBelow;
        private int count;
        private final int[] clogged = new int[BLAMED];
        private final int[] overs = new int[1 << BLAMED];

        /** Finds the houses with a clog; false if there are too many. */
        boolean choose(Roofs street) {
            count = 0;
            for (int h = 0; h < street.count; h++) {
                if (street.houses[h].clog > 0) {
                    if (count >= BLAMED) {
                        return false;
                    }
                    clogged[count] = h;
                    count++;
                }
            }
            return true;
        }

        /** What would run over at w with a set of the clogs alone. */
        int overWith(int set, int w, Roofs street, Roofs thought, Storm storm) {
            thought.imagine(street);
            for (int i = 0; i < count; i++) {
                if ((set >> i & 1) == 0) {
                    thought.houses[clogged[i]].clog = 0;
                }
            }
            thought.pour(storm, w);
            return thought.houses[w].over;
        }

        void weigh(int w, int u, Roofs street, Roofs thought, Storm storm) {
            shareAbove = 0;
            shareBelow = 1;
            int own = 0;
            for (int i = 0; i < count; i++) {
                own |= clogged[i] == u ? 1 << i : 0;
            }
            if (own == 0) {
                return;
            }
            for (int set = 0; set < 1 << count; set++) {
                overs[set] = overWith(set, w, street, thought, storm);
            }
            long above = addOrders(own);
            long below = ORDERS[count];
            long common = commonPart(Math.abs(above), below);
            shareAbove = above / common;
            shareBelow = below / common;
        }

        /** Each set that may have come ahead of u's clog, as often as orders begin with it. */
        private long addOrders(int own) {
            long all = 0;
            for (int set = 0; set < 1 << count; set++) {
                if ((set & own) == 0) {
                    int ahead = Integer.bitCount(set);
                    long orders = (long) ORDERS[ahead] * ORDERS[count - 1 - ahead];
                    all += orders * (overs[set | own] - overs[set]);
                }
            }
            return all;
        }

        /** The greatest common part; 1 at least. */
        private static long commonPart(long a, long b) {
            // Euclid's way needs fewer steps than a long has bits, twice.
            for (int n = 0; n < 128 && b != 0; n++) {
                long rest = a % b;
                a = b;
                b = rest;
            }
            return Math.max(1, a);
        }
    }

    /** The fewest cleanings by which some storms in a row wet nobody. */
    private static final class Cleaning {
        int stormCount;
        int fewest;
        final int[] storms = new int[CLEANED];
        final int[] sets = new int[CLEANED];
        private final int[] mostGot = new int[CLEANED * CLEANED];

        /**
         * The storms in a row over gutters that never run over. While none is wet, every gutter
         * carries all it gets, so what each gets is the same for all ways of cleaning, and each
         * house's cleanings can be planned by itself.
         */
        void rain(Street street, Roofs thought) {
            thought.imagine(street.roofs);
            thought.widen();
            for (int i = 0; i < stormCount; i++) {
                thought.pour(street.storms[storms[i]], HOUSES);
                for (int h = 0; h < thought.count && h < CLEANED; h++) {
                    mostGot[i * CLEANED + h] = thought.houses[h].mostGot;
                }
            }
        }

        /** False if there is no way. */
        boolean plan(Roofs street) {
            fewest = 0;
            for (int i = 0; i < CLEANED; i++) {
                sets[i] = 0;
            }
            for (int h = 0; h < street.count && h < CLEANED; h++) {
                int times = bestTimes(street.houses[h], h);
                if (times == NONE) {
                    return false;
                }
                fewest += Integer.bitCount(times);
                for (int i = 0; i < stormCount; i++) {
                    sets[i] |= isAhead(times, i) ? 1 << h : 0;
                }
            }
            return true;
        }

        /** The first storm has the highest bit, so that of several ways the least is the first. */
        private boolean isAhead(int times, int i) {
            return (times >> (stormCount - 1 - i) & 1) != 0;
        }

        private int bestTimes(House house, int number) {
            int best = NONE;
            for (int times = 0; times < 1 << stormCount; times++) {
                if ((best == NONE || Integer.bitCount(times) < Integer.bitCount(best))
                        && staysDry(house, number, times)) {
                    best = times;
                }
            }
            return best;
        }

        private boolean staysDry(House house, int number, int times) {
            int clog = house.clog;
            for (int i = 0; i < stormCount; i++) {
                clog = isAhead(times, i) ? 0 : clog;
                if (mostGot[i * CLEANED + number] > house.carriesAt(clog)) {
                    return false;
                }
                clog = Math.min(TENTHS, clog + house.leaves);
            }
            return true;
        }
    }

    /** Which storms and clogs explain the stains that were seen. */
    private static final class Stains {
        private int seen;
        private int count;
        private int leastStorm;
        private int leastSet;
        private int inAll;
        private int storm;

        void explain(int set, Street street, Roofs thought) {
            seen = set;
            count = 0;
            leastStorm = NONE;
            leastSet = NONE;
            inAll = 0;
            thought.imagine(street.roofs);
            for (int s = 0; s < street.stormCount; s++) {
                storm = s;
                tryHouse(this, thought, street.storms[s], 0, 0);
            }
        }

        int told(int what) {
            switch (what) {
                case 0: return count;
                case 1: return leastStorm;
                case 2: return leastSet;
                default: return inAll;
            }
        }

        /** Goes on to a house only while those ahead of it are stained, or not, as was seen. */
        private static void tryHouse(Stains found, Roofs roofs, Storm storm, int house, int set) {
            if (house >= roofs.count || house >= STAINED) {
                found.note(set);
                return;
            }
            boolean stained = (found.seen >> house & 1) != 0;
            if (runsOver(roofs, storm, house, 0) == stained) {
                tryHouse(found, roofs, storm, house + 1, set);
            }
            if (runsOver(roofs, storm, house, TENTHS) == stained) {
                tryHouse(found, roofs, storm, house + 1, set | 1 << house);
            }
        }

        private static boolean runsOver(Roofs roofs, Storm storm, int house, int clog) {
            House tried = roofs.houses[house];
            tried.clog = clog;
            tried.held = 0;
            tried.snow = 0;
            roofs.pass(house, storm);
            return tried.over > 0;
        }

        private void note(int set) {
            inAll = count == 0 ? set : inAll & set;
            count++;
            if (leastStorm == NONE) {
                leastStorm = storm;
                leastSet = set;
            } else if (leastStorm == storm) {
                leastSet = Math.min(leastSet, set);
            }
        }
    }
}
