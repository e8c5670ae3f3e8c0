/**
 * The valley of odd shoes: towns, roads, shops of one side, people with feet and purses, and days
 * told as small texts. The document (DOC.md) numbers what each call promises.
 */
public final class OddShoes {
    public static final int NONE = -6, UNKNOWN = -1, OUTSIDE = -2, STATE = -3, FULL = -4, NO = -5;
    public static final long LOST = -1000000000000000000L;

    /** What a look for a refusal answers if there is none: no refusal is 0. */
    private static final int FINE = 0;

    private static final int LEAST_TOWNS = 2;
    private static final int FIRST_TOWNS = 4;
    private static final int MOST_TOWNS = 6;
    private static final int MOST_ROADS = 15;
    private static final int MOST_MILES = 9;
    private static final int MOST_PRICE = 20;
    private static final int MOST_STOCK = 9;
    private static final int SIZES = 5;
    private static final int MOST_PEOPLE = 4;
    private static final int MOST_PURSE = 99;
    private static final int MOST_SIGNS = 60;
    private static final int MOST_UNTOLD = 3;
    private static final int MOST_SIGHTS = 6;
    private static final int IMAGES = 2;
    private static final int BROTHERS_PRICES = 10;
    private static final int OWNERS_PRICES = 100;

    private static final int NOTHING = 0;
    private static final int LEFTS = 1;
    private static final int RIGHTS = 2;

    /** The kinds of feet by which a road is trodden. */
    private static final int IN_LEFT = 0;
    private static final int IN_RIGHT = 1;
    private static final int BARE = 2;
    private static final int FEET = 3;

    /** Prints of a track that are no sizes. */
    private static final int BARE_PRINT = 5;
    private static final int NO_PRINT = 6;

    /** A deed below BUY is a walk to that town. */
    private static final int BUY = 6;
    private static final int THROW = 7;

    /** Who does a step behind '?'. */
    private static final int UNTOLD = -1;

    /** Far above all miles of a valley, and small enough that seven of it can be added up. */
    private static final int NO_WAY = 1000000;

    /** More miles than a shoe can come to. */
    private static final int FOR_EVER = 1000000;

    private final Valley valley = new Valley();
    private final Valley[] images = new Valley[IMAGES];
    private final boolean[] kept = new boolean[IMAGES];
    private final Pad pad = new Pad();
    private final Day day = new Day();
    private final Ways ways = new Ways();
    private final Errand errand = new Errand();
    private final Tour tour = new Tour();
    private final Fetching fetching = new Fetching();
    private final Cut cut = new Cut();
    private final Draws draws = new Draws();

    public OddShoes() {
        for (int i = 0; i < images.length; i++) {
            images[i] = new Valley();
        }
    }

    // ---- 1 towns, people, days

    public int towns(int n) {
        if (!isWithin(n, LEAST_TOWNS, MOST_TOWNS)) {
            return OUTSIDE;
        }
        int before = valley.townCount;
        valley.beginAnew(n);
        return before;
    }

    public int road(int town, int other, int miles, int rule) {
        if (!valley.areTwoTowns(town, other)) {
            return UNKNOWN;
        }
        if (!isWithin(miles, 0, MOST_MILES) || !isWithin(rule, 0, 2)) {
            return OUTSIDE;
        }
        int before = valley.milesOf(roadNumber(town, other));
        valley.layRoad(roadNumber(town, other), miles, rule);
        return before;
    }

    public int shop(int town, int side, int price) {
        if (!valley.isTown(town)) {
            return UNKNOWN;
        }
        if (!isWithin(side, NOTHING, RIGHTS) || !isWithin(price, 0, MOST_PRICE)) {
            return OUTSIDE;
        }
        int before = valley.sideAt(town);
        put(valley.sides, town, side);
        put(valley.prices, town, price);
        return before;
    }

    public int stock(int town, int size, int v) {
        if (!valley.isTown(town) || !isSize(size)) {
            return UNKNOWN;
        }
        if (!isWithin(v, 0, MOST_STOCK)) {
            return OUTSIDE;
        }
        int before = valley.stockAt(town, size);
        valley.putStock(town, size, v);
        return before;
    }

    public int person(int person, int home, int left, int right, int purse) {
        if (!isWithin(person, 0, MOST_PEOPLE - 1) || !valley.isTown(home)) {
            return UNKNOWN;
        }
        if (!isSize(left) || !isSize(right)) {
            return UNKNOWN;
        }
        if (!isWithin(purse, 0, MOST_PURSE)) {
            return OUTSIDE;
        }
        valley.personAt(person).settle(home, left, right, purse);
        return Integer.bitCount(valley.peopleBits());
    }

    public int leave(int person) {
        if (!valley.isThere(person)) {
            return UNKNOWN;
        }
        valley.personAt(person).vanish();
        return Integer.bitCount(valley.peopleBits());
    }

    public int set(int which, int v) {
        if (which == 0 && isWithin(v, 0, 9)) {
            int before = valley.toll;
            valley.toll = v;
            return before;
        }
        if (which == 1 && isWithin(v, 1, 9)) {
            int before = valley.limit;
            valley.limit = v;
            return before;
        }
        return OUTSIDE;
    }

    public int say(int sign) {
        if (!isWithin(sign, 33, 126)) {
            return OUTSIDE;
        }
        return pad.isFull() ? FULL : pad.write(sign);
    }

    public int wipe() {
        return pad.clear();
    }

    public int fault() {
        return pad.firstFault(valley.townCount);
    }

    // ---- 2 days

    public int judge(int what) {
        if (!isWithin(what, 0, 1)) {
            return OUTSIDE;
        }
        int refusal = refusalOfText();
        if (refusal != FINE) {
            return refusal;
        }
        if (day.play(valley, pad, 0, FOR_EVER)) {
            return NONE;
        }
        return what == 0 ? day.badStep : day.why;
    }

    public int done() {
        int refusal = refusalOfDay(FOR_EVER);
        if (refusal != FINE) {
            return refusal;
        }
        int steps = pad.stepCount();
        valley.becomeLike(day.after);
        pad.clear();
        return steps;
    }

    public int state(int person, int what) {
        if (!valley.isThere(person)) {
            return UNKNOWN;
        }
        if (!isWithin(what, 0, 6)) {
            return OUTSIDE;
        }
        return valley.personAt(person).answer(what, valley.limit);
    }

    public int behind(int person, int what) {
        if (!valley.isThere(person)) {
            return UNKNOWN;
        }
        if (!isWithin(what, 0, 6)) {
            return OUTSIDE;
        }
        int refusal = refusalOfDay(FOR_EVER);
        if (refusal != FINE) {
            return refusal;
        }
        return day.after.personAt(person).answer(what, day.after.limit);
    }

    public int trodden(int town, int other, int which) {
        if (!valley.areTwoTowns(town, other)) {
            return UNKNOWN;
        }
        if (!isWithin(which, IN_LEFT, BARE)) {
            return OUTSIDE;
        }
        int road = roadNumber(town, other);
        return valley.milesOf(road) == 0 ? STATE : valley.wornBy(road, which);
    }

    public int givesOut(int d, int what) {
        if (!isWithin(d, 1, 99) || !isWithin(what, 0, 2)) {
            return OUTSIDE;
        }
        int refusal = refusalOfDay(d);
        if (refusal != FINE) {
            return refusal;
        }
        if (what == 0) {
            return day.outStep;
        }
        return what == 1 ? day.outWho : day.outSide;
    }

    // ---- 3 ways

    public int far(int town, int other, int limps) {
        if (!valley.isTown(town) || !valley.isTown(other)) {
            return UNKNOWN;
        }
        if (!isWithin(limps, 0, 1)) {
            return OUTSIDE;
        }
        ways.survey(valley);
        int miles = ways.milesBetween(town, other, limps == 1);
        return miles >= NO_WAY ? NONE : miles;
    }

    public int way(int person, int town, int i) {
        if (!valley.isThere(person) || !valley.isTown(town)) {
            return UNKNOWN;
        }
        ways.survey(valley);
        Person walker = valley.personAt(person);
        boolean limps = walker.limps(valley.limit);
        int miles = ways.milesBetween(walker.at, town, limps);
        if (miles >= NO_WAY) {
            return NONE;
        }
        return i == -1 ? miles : ways.townOnWay(valley, walker.at, town, limps, i);
    }

    public int shod(int person, int what) {
        if (!valley.isThere(person)) {
            return UNKNOWN;
        }
        if (!isWithin(what, 0, 3)) {
            return OUTSIDE;
        }
        ways.survey(valley);
        errand.plan(valley, ways, valley.personAt(person), valley.allTowns());
        switch (what) {
            case 0: return errand.cost;
            case 1: return errand.miles;
            case 2: return errand.firstTown;
            default: return errand.secondTown;
        }
    }

    public int round(int person, int set, int i) {
        if (!valley.isThere(person)) {
            return UNKNOWN;
        }
        if (!isWithin(set, 0, valley.allTowns())) {
            return OUTSIDE;
        }
        ways.survey(valley);
        tour.plan(valley, ways, valley.personAt(person), set);
        return i == -1 ? tour.miles : tour.townAt(i);
    }

    public int together(int set, int x, int y, int what) {
        if (!valley.isTown(x) || !valley.isTown(y)) {
            return UNKNOWN;
        }
        if (!isWithin(what, 0, 2) || set == 0 || (set & ~valley.peopleBits()) != 0) {
            return OUTSIDE;
        }
        ways.survey(valley);
        fetching.plan(valley, ways, set, x, y);
        if (what == 0) {
            return fetching.miles;
        }
        return what == 1 ? fetching.forLefts : fetching.forRights;
    }

    public int parted(int town, int other, int what) {
        if (!valley.areTwoTowns(town, other)) {
            return UNKNOWN;
        }
        if (!isWithin(what, 0, 1)) {
            return OUTSIDE;
        }
        cut.find(valley, town, other);
        return what == 0 ? Integer.bitCount(cut.bits) : cut.bits;
    }

    // ---- 4 pairs, prices

    public int pairs(int lefts, int rights, int span, int what) {
        if (!valley.areTwoTowns(lefts, rights)) {
            return UNKNOWN;
        }
        if (!isWithin(span, 0, SIZES - 1) || !isWithin(what, 0, 1)) {
            return OUTSIDE;
        }
        int most = mostPairs(lefts, rights, span);
        if (what == 0) {
            return most;
        }
        return valley.shoesAt(lefts) + valley.shoesAt(rights) - 2 * most;
    }

    public int rests(int i) {
        int count = 0;
        for (int both = 0; both < BROTHERS_PRICES * BROTHERS_PRICES; both++) {
            if (isAtRest(both / BROTHERS_PRICES, both % BROTHERS_PRICES)) {
                if (count == i) {
                    return both;
                }
                count++;
            }
        }
        return i == -1 ? count : NONE;
    }

    public int owner(int what) {
        if (!isWithin(what, 0, 1)) {
            return OUTSIDE;
        }
        int bestPrice = 0;
        int most = 0;
        for (int price = 0; price < OWNERS_PRICES; price++) {
            int gain = price * valley.buyersAt(price);
            if (gain > most) {
                most = gain;
                bestPrice = price;
            }
        }
        return what == 0 ? bestPrice : most;
    }

    // ---- 5 tracks, spies, chances

    public int track(int left, int right, int limps) {
        if (!isWithin(left, 0, NO_PRINT) || !isWithin(right, 0, NO_PRINT)) {
            return OUTSIDE;
        }
        if (!isWithin(limps, 0, 2)) {
            return OUTSIDE;
        }
        int bits = 0;
        for (int i = 0; i < MOST_PEOPLE; i++) {
            Person walker = valley.personAt(i);
            int gait = walker.limps(valley.limit) ? 1 : 0;
            boolean fits = walker.leavesPrint(LEFTS, left) && walker.leavesPrint(RIGHTS, right);
            if (walker.there && fits && (limps == 2 || limps == gait)) {
                bits |= 1 << i;
            }
        }
        return bits;
    }

    public int seen(int person, int town) {
        if (!isWithin(person, 0, MOST_PEOPLE - 1) || !valley.isTown(town)) {
            return UNKNOWN;
        }
        return valley.sightCount >= MOST_SIGHTS ? FULL : valley.addSight(person, town);
    }

    public int forget() {
        int before = valley.sightCount;
        valley.sightCount = 0;
        return before;
    }

    public int filled(int i) {
        if (pad.firstFault(valley.townCount) != NONE) {
            return NO;
        }
        day.fill(valley, pad);
        if (i == -1) {
            return day.fillings;
        }
        boolean isAsked = day.fillings > 0 && isWithin(i, 0, pad.untoldCount() - 1);
        return isAsked ? guessedFor(i, pad.untoldCount(), day.firstFilling) : NONE;
    }

    public int spy(int what) {
        if (!isWithin(what, 0, 1)) {
            return OUTSIDE;
        }
        int bestSizes = 0;
        int most = 0;
        for (int both = 0; both < SIZES * SIZES; both++) {
            int count = valley.peopleOfSizes(both / SIZES, both % SIZES);
            if (count > most) {
                most = count;
                bestSizes = 10 * (both / SIZES) + both % SIZES;
            }
        }
        return what == 0 ? bestSizes : most;
    }

    public long shut(int person, int t, int part) {
        if (!valley.isThere(person)) {
            return LOST + UNKNOWN;
        }
        if (!isWithin(t, 0, 10) || !isWithin(part, 0, 1)) {
            return LOST + OUTSIDE;
        }
        ways.survey(valley);
        errand.weigh(valley, ways, valley.personAt(person), t);
        return part == 0 ? errand.upper : errand.lower;
    }

    public int year(int seed, int m, int what) {
        if (!isWithin(seed, 0, 9999) || !isWithin(m, 1, 99) || !isWithin(what, 0, 2)) {
            return OUTSIDE;
        }
        day.after.becomeLike(valley);
        draws.live(day.after, seed, m);
        if (what == 0) {
            return draws.miles;
        }
        return what == 1 ? draws.shoes : day.after.limpingCount();
    }

    public int image(int n) {
        if (!isImage(n)) {
            return OUTSIDE;
        }
        images[n].becomeLike(valley);
        kept[n] = true;
        return 1;
    }

    public int restore(int n) {
        if (!isImage(n)) {
            return OUTSIDE;
        }
        if (!kept[n]) {
            return STATE;
        }
        valley.becomeLike(images[n]);
        return 1;
    }

    public int told(int what) {
        if (what < 0) {
            return OUTSIDE;
        }
        return what < 100 ? toldOfAll(what) : toldOfTown(what / 100 - 1, what % 100);
    }

    // ---- what the calls share

    private int refusalOfText() {
        if (pad.firstFault(valley.townCount) != NONE) {
            return NO;
        }
        return pad.untoldCount() > 0 ? STATE : FINE;
    }

    /** Plays the day too, where its text can be played: behind FINE the day's answers stand. */
    private int refusalOfDay(int lasts) {
        int refusal = refusalOfText();
        if (refusal != FINE) {
            return refusal;
        }
        return day.play(valley, pad, 0, lasts) ? FINE : NO;
    }

    private boolean isImage(int n) {
        return n >= 0 && n < images.length && n < kept.length && images[n] != null;
    }

    private int toldOfAll(int what) {
        switch (what) {
            case 0: return pad.count;
            case 1: return valley.townCount;
            case 2: return valley.peopleBits();
            case 3: return valley.toll;
            case 4: return valley.limit;
            case 5: return valley.sightCount;
            default: break;
        }
        if (valley.isTown(what - 10)) {
            return valley.sideAt(what - 10);
        }
        return valley.isTown(what - 20) ? valley.priceAt(what - 20) : OUTSIDE;
    }

    private int toldOfTown(int town, int rest) {
        if (!valley.isTown(town)) {
            return OUTSIDE;
        }
        if (isSize(rest)) {
            return valley.stockAt(town, rest);
        }
        if (valley.areTwoTowns(town, rest - 10)) {
            return valley.milesOf(roadNumber(town, rest - 10));
        }
        if (valley.areTwoTowns(town, rest - 20)) {
            return valley.ruleOf(roadNumber(town, rest - 20));
        }
        return OUTSIDE;
    }

    /**
     * The least left and the least right go together, if they are near enough: were each in a
     * pair with a greater shoe, these two greater ones would be near enough to go together too.
     */
    private int mostPairs(int lefts, int rights, int span) {
        int most = 0;
        int left = 0;
        int right = 0;
        int leftsUsed = 0;
        int rightsUsed = 0;
        for (int turn = 0; turn < 4 * SIZES && left < SIZES && right < SIZES; turn++) {
            int leftsHere = valley.stockAt(lefts, left) - leftsUsed;
            int rightsHere = valley.stockAt(rights, right) - rightsUsed;
            if (leftsHere == 0 || left < right - span) {
                left++;
                leftsUsed = 0;
            } else if (rightsHere == 0 || right < left - span) {
                right++;
                rightsUsed = 0;
            } else {
                int made = Math.min(leftsHere, rightsHere);
                most += made;
                leftsUsed += made;
                rightsUsed += made;
            }
        }
        return most;
    }

    private boolean isAtRest(int left, int right) {
        int buyers = valley.buyersAt(left + right);
        for (int price = 0; price < BROTHERS_PRICES; price++) {
            if (price * valley.buyersAt(price + right) > left * buyers) {
                return false;
            }
            if (price * valley.buyersAt(left + price) > right * buyers) {
                return false;
            }
        }
        return true;
    }

    private static boolean isWithin(int v, int least, int most) {
        return v >= least && v <= most;
    }

    private static boolean isSize(int size) {
        return size >= 0 && size < SIZES;
    }

    private static boolean isIn(int bits, int number) {
        return (bits >> number & 1) == 1;
    }

    private static boolean isWalk(int deed) {
        return deed < BUY;
    }

    /** A row's value; 0 where the row has no such place. */
    private static int valueAt(int[] row, int place) {
        return place >= 0 && place < row.length ? row[place] : 0;
    }

    private static void put(int[] row, int place, int v) {
        if (place >= 0 && place < row.length) {
            row[place] = v;
        }
    }

    private static void copyRow(int[] from, int[] to) {
        for (int i = 0; i < from.length && i < to.length; i++) {
            to[i] = from[i];
        }
    }

    private static void clearRow(int[] row) {
        for (int i = 0; i < row.length; i++) {
            row[i] = 0;
        }
    }

    /** Roads are numbered by the lesser town, then the greater; -1 is no road's number. */
    private static int roadNumber(int town, int other) {
        int lesser = Math.min(town, other);
        int greater = Math.max(town, other);
        if (lesser < 0 || greater >= MOST_TOWNS || lesser == greater) {
            return -1;
        }
        return lesser * (2 * MOST_TOWNS - 1 - lesser) / 2 + greater - lesser - 1;
    }

    /** The person that a guess writes for a '?': the first '?' counts most, as letters do. */
    private static int guessedFor(int mark, int marks, int guess) {
        int behind = marks - 1 - mark;
        return isWithin(behind, 0, MOST_UNTOLD - 1) ? guess >> 2 * behind & 3 : 0;
    }

    /** Bounded far above what numbers up to a million need. */
    private static long greatestDivisor(long a, long b) {
        long greater = a;
        long lesser = b;
        for (int turn = 0; turn < 100 && lesser != 0; turn++) {
            long rest = greater % lesser;
            greater = lesser;
            lesser = rest;
        }
        return greater;
    }

    /** One of the people: its feet, its purse, its shoes, where it is. */
    private static final class Person {
        private boolean there;
        private int home;
        private int at;
        private int leftSize;
        private int rightSize;
        private int purse;
        private boolean hasLeft;
        private boolean hasRight;
        private int leftWear;
        private int rightWear;
        private int walked;

        private void settle(int town, int left, int right, int money) {
            there = true;
            home = town;
            at = town;
            leftSize = left;
            rightSize = right;
            purse = money;
            walked = 0;
            throwShoes();
        }

        private void vanish() {
            settle(0, 0, 0, 0);
            there = false;
        }

        private void becomeLike(Person other) {
            there = other.there;
            home = other.home;
            at = other.at;
            leftSize = other.leftSize;
            rightSize = other.rightSize;
            purse = other.purse;
            hasLeft = other.hasLeft;
            hasRight = other.hasRight;
            leftWear = other.leftWear;
            rightWear = other.rightWear;
            walked = other.walked;
        }

        private boolean limps(int limit) {
            if (hasLeft != hasRight) {
                return true;
            }
            return hasLeft && Math.abs(leftWear - rightWear) >= limit;
        }

        private boolean wears(int side) {
            return side == LEFTS ? hasLeft : hasRight;
        }

        private int sizeOn(int side) {
            return side == LEFTS ? leftSize : rightSize;
        }

        private boolean leavesPrint(int side, int print) {
            if (print == NO_PRINT) {
                return true;
            }
            return print == BARE_PRINT ? !wears(side) : wears(side) && sizeOn(side) == print;
        }

        private void putOn(int side) {
            if (side == LEFTS) {
                hasLeft = true;
            } else {
                hasRight = true;
            }
        }

        private void throwShoes() {
            hasLeft = false;
            hasRight = false;
            leftWear = 0;
            rightWear = 0;
        }

        private void walk(int miles, int town) {
            leftWear += hasLeft ? miles : 0;
            rightWear += hasRight ? miles : 0;
            walked += miles;
            at = town;
        }

        private int answer(int what, int limit) {
            switch (what) {
                case 0: return at;
                case 1: return purse;
                case 2: return (hasLeft ? 1 : 0) + (hasRight ? 2 : 0);
                case 3: return leftWear;
                case 4: return rightWear;
                case 5: return limps(limit) ? 1 : 0;
                default: return walked;
            }
        }
    }

    /** All that an image keeps, and the steps by which it changes. */
    private static final class Valley {
        private int townCount = FIRST_TOWNS;
        private int toll = 1;
        /** K: so far apart in wear two shoes make one limp. */
        private int limit = 3;
        private int sightCount = 0;
        private final int[] miles = new int[MOST_ROADS];
        private final int[] rules = new int[MOST_ROADS];
        private final int[] worn = new int[FEET * MOST_ROADS];
        private final int[] sides = new int[MOST_TOWNS];
        private final int[] prices = new int[MOST_TOWNS];
        private final int[] stocks = new int[SIZES * MOST_TOWNS];
        private final int[] sightPeople = new int[MOST_SIGHTS];
        private final int[] sightTowns = new int[MOST_SIGHTS];
        private final Person[] people = new Person[MOST_PEOPLE];
        private final Person nobody = new Person();

        private Valley() {
            for (int i = 0; i < people.length; i++) {
                people[i] = new Person();
            }
        }

        private void beginAnew(int towns) {
            townCount = towns;
            sightCount = 0;
            clearRow(miles);
            clearRow(rules);
            clearRow(worn);
            clearRow(sides);
            clearRow(prices);
            clearRow(stocks);
            for (int i = 0; i < MOST_PEOPLE; i++) {
                personAt(i).vanish();
            }
        }

        private void becomeLike(Valley other) {
            townCount = other.townCount;
            toll = other.toll;
            limit = other.limit;
            sightCount = other.sightCount;
            copyRow(other.miles, miles);
            copyRow(other.rules, rules);
            copyRow(other.worn, worn);
            copyRow(other.sides, sides);
            copyRow(other.prices, prices);
            copyRow(other.stocks, stocks);
            copyRow(other.sightPeople, sightPeople);
            copyRow(other.sightTowns, sightTowns);
            for (int i = 0; i < MOST_PEOPLE; i++) {
                personAt(i).becomeLike(other.personAt(i));
            }
        }

        private boolean isTown(int town) {
            return town >= 0 && town < townCount;
        }

        private boolean areTwoTowns(int town, int other) {
            return isTown(town) && isTown(other) && town != other;
        }

        private int allTowns() {
            return (1 << townCount) - 1;
        }

        /** Nobody, who is not there, stands for numbers that no person has. */
        private Person personAt(int number) {
            if (number < 0 || number >= people.length || people[number] == null) {
                return nobody;
            }
            return people[number];
        }

        private boolean isThere(int number) {
            return personAt(number).there;
        }

        private int peopleBits() {
            int bits = 0;
            for (int i = 0; i < MOST_PEOPLE; i++) {
                bits |= isThere(i) ? 1 << i : 0;
            }
            return bits;
        }

        private int peopleOfSizes(int left, int right) {
            int count = 0;
            for (int i = 0; i < MOST_PEOPLE; i++) {
                Person one = personAt(i);
                count += one.there && one.leftSize == left && one.rightSize == right ? 1 : 0;
            }
            return count;
        }

        private int buyersAt(int price) {
            int count = 0;
            for (int i = 0; i < MOST_PEOPLE; i++) {
                count += isThere(i) && personAt(i).purse >= price ? 1 : 0;
            }
            return count;
        }

        private int limpingCount() {
            int count = 0;
            for (int i = 0; i < MOST_PEOPLE; i++) {
                count += isThere(i) && personAt(i).limps(limit) ? 1 : 0;
            }
            return count;
        }

        private int milesOf(int road) {
            return valueAt(miles, road);
        }

        private int ruleOf(int road) {
            return valueAt(rules, road);
        }

        private int wornBy(int road, int foot) {
            return valueAt(worn, FEET * road + foot);
        }

        private void layRoad(int road, int length, int rule) {
            put(miles, road, length);
            put(rules, road, rule);
            for (int foot = 0; foot < FEET; foot++) {
                put(worn, FEET * road + foot, 0);
            }
        }

        private boolean mayWalk(int road, boolean limps) {
            int rule = valueAt(rules, road);
            return rule == 0 || rule == (limps ? 1 : 2);
        }

        private int sideAt(int town) {
            return valueAt(sides, town);
        }

        private int priceAt(int town) {
            return valueAt(prices, town);
        }

        private int stockAt(int town, int size) {
            return isSize(size) ? valueAt(stocks, SIZES * town + size) : 0;
        }

        private void putStock(int town, int size, int v) {
            if (isSize(size)) {
                put(stocks, SIZES * town + size, v);
            }
        }

        private int shoesAt(int town) {
            int count = 0;
            for (int size = 0; size < SIZES; size++) {
                count += stockAt(town, size);
            }
            return count;
        }

        /** Whether the shop sells that side and has the person's size of it. */
        private boolean hasFor(int town, int side, Person buyer) {
            int place = SIZES * town + buyer.sizeOn(side);
            return valueAt(sides, town) == side && valueAt(stocks, place) > 0;
        }

        private int addSight(int person, int town) {
            put(sightPeople, sightCount, person);
            put(sightTowns, sightCount, town);
            sightCount++;
            return sightCount;
        }

        private boolean holdsSights() {
            for (int i = 0; i < sightCount; i++) {
                Person one = personAt(valueAt(sightPeople, i));
                if (!one.there || one.at != valueAt(sightTowns, i)) {
                    return false;
                }
            }
            return true;
        }

        /** The least reason for which the step can not be, or FINE. */
        private int whyNot(int person, int deed) {
            Person one = personAt(person);
            if (!one.there) {
                return 1;
            }
            if (deed == THROW) {
                return FINE;
            }
            return isWalk(deed) ? whyNoWalk(one, deed) : whyNoShoe(one);
        }

        private int whyNoWalk(Person walker, int town) {
            int road = roadNumber(walker.at, town);
            if (milesOf(road) == 0) {
                return 2;
            }
            return mayWalk(road, walker.limps(limit)) ? FINE : 3;
        }

        private int whyNoShoe(Person buyer) {
            int side = sideAt(buyer.at);
            if (side == NOTHING || !hasFor(buyer.at, side, buyer)) {
                return 4;
            }
            if (buyer.wears(side)) {
                return 5;
            }
            return buyer.purse < priceAt(buyer.at) ? 6 : FINE;
        }

        /** Only for a step that can be. */
        private void take(int person, int deed) {
            Person one = personAt(person);
            if (isWalk(deed)) {
                walk(one, deed);
            } else if (deed == BUY) {
                buy(one);
            } else {
                one.throwShoes();
            }
        }

        private void walk(Person walker, int town) {
            int road = roadNumber(walker.at, town);
            tread(road, walker.hasLeft ? IN_LEFT : BARE);
            tread(road, walker.hasRight ? IN_RIGHT : BARE);
            walker.walk(milesOf(road), town);
        }

        private void tread(int road, int foot) {
            int place = FEET * road + foot;
            put(worn, place, valueAt(worn, place) + valueAt(miles, road));
        }

        private void buy(Person buyer) {
            int side = sideAt(buyer.at);
            int size = buyer.sizeOn(side);
            putStock(buyer.at, size, stockAt(buyer.at, size) - 1);
            buyer.purse -= priceAt(buyer.at);
            buyer.putOn(side);
        }
    }

    /** The text of a day. Its steps are read only where it has no fault. */
    private static final class Pad {
        private final int[] signs = new int[MOST_SIGNS];
        private int count = 0;

        private boolean isFull() {
            return count >= MOST_SIGNS;
        }

        private int write(int sign) {
            put(signs, count, sign);
            count++;
            return count;
        }

        private int clear() {
            int before = count;
            count = 0;
            return before;
        }

        private int firstFault(int townCount) {
            int marks = 0;
            for (int i = 0; i < count; i++) {
                int sign = valueAt(signs, i);
                marks += sign == '?' ? 1 : 0;
                boolean stands = i % 2 == 0
                        ? isWho(sign) && marks <= MOST_UNTOLD
                        : isDeed(sign, townCount);
                if (!stands) {
                    return i;
                }
            }
            return count % 2 == 0 ? NONE : count;
        }

        private boolean isWho(int sign) {
            return sign == '?' || isWithin(sign, 'A', 'A' + MOST_PEOPLE - 1);
        }

        private boolean isDeed(int sign, int townCount) {
            return sign == '+' || sign == '-' || isWithin(sign, 'a', 'a' + townCount - 1);
        }

        private int untoldCount() {
            int marks = 0;
            for (int i = 0; i < count; i++) {
                marks += valueAt(signs, i) == '?' ? 1 : 0;
            }
            return marks;
        }

        private int stepCount() {
            return count / 2;
        }

        private int whoOf(int step) {
            int sign = valueAt(signs, 2 * step);
            return sign == '?' ? UNTOLD : sign - 'A';
        }

        private int deedOf(int step) {
            int sign = valueAt(signs, 2 * step + 1);
            if (sign == '+') {
                return BUY;
            }
            return sign == '-' ? THROW : sign - 'a';
        }
    }

    /** A day that is played on a copy of the valley. */
    private static final class Day {
        private final Valley after = new Valley();
        private int badStep = NONE;
        private int why = FINE;
        private int outStep = NONE;
        private int outWho = NONE;
        private int outSide = NONE;
        private int fillings = 0;
        private int firstFilling = 0;

        /** Whether all steps can be, if the guess tells who '?' are and shoes last so long. */
        private boolean play(Valley now, Pad pad, int guess, int lasts) {
            after.becomeLike(now);
            outStep = NONE;
            outWho = NONE;
            outSide = NONE;
            int marks = pad.untoldCount();
            int mark = 0;
            for (int step = 0; step < pad.stepCount(); step++) {
                int deed = pad.deedOf(step);
                int who = pad.whoOf(step);
                if (who == UNTOLD) {
                    who = guessedFor(mark, marks, guess);
                    mark++;
                }
                badStep = step;
                why = after.whyNot(who, deed);
                if (why != FINE) {
                    return false;
                }
                after.take(who, deed);
                if (isWalk(deed) && outStep == NONE) {
                    lookAtShoes(step, who, lasts);
                }
            }
            return true;
        }

        private void lookAtShoes(int step, int who, int lasts) {
            Person walker = after.personAt(who);
            if (walker.leftWear > lasts || walker.rightWear > lasts) {
                outStep = step;
                outWho = who;
                outSide = walker.leftWear > lasts ? 0 : 1;
            }
        }

        private void fill(Valley now, Pad pad) {
            int marks = Math.min(pad.untoldCount(), MOST_UNTOLD);
            fillings = 0;
            firstFilling = 0;
            for (int guess = 0; guess < 1 << 2 * marks; guess++) {
                if (play(now, pad, guess, FOR_EVER) && after.holdsSights()) {
                    firstFilling = fillings == 0 ? guess : firstFilling;
                    fillings++;
                }
            }
        }
    }

    /** The fewest miles between all towns, for who does not limp and for who does. */
    private static final class Ways {
        /** A road weighs so much a mile and one more: miles count first, then roads. */
        private static final int MILE = 8;
        private static final int TOWNS_SQUARED = MOST_TOWNS * MOST_TOWNS;

        private final int[] weights = new int[2 * TOWNS_SQUARED];

        private void survey(Valley valley) {
            surveyFor(valley, false);
            surveyFor(valley, true);
        }

        private void surveyFor(Valley valley, boolean limps) {
            int count = valley.townCount;
            for (int from = 0; from < count; from++) {
                for (int to = 0; to < count; to++) {
                    int weight = from == to ? 0 : weightOfRoad(valley, from, to, limps);
                    put(weights, place(from, to, limps), weight);
                }
            }
            for (int over = 0; over < count; over++) {
                for (int from = 0; from < count; from++) {
                    for (int to = 0; to < count; to++) {
                        shorten(from, over, to, limps);
                    }
                }
            }
        }

        private void shorten(int from, int over, int to, boolean limps) {
            int round = weightBetween(from, over, limps) + weightBetween(over, to, limps);
            if (round < weightBetween(from, to, limps)) {
                put(weights, place(from, to, limps), round);
            }
        }

        private static int place(int from, int to, boolean limps) {
            return (limps ? TOWNS_SQUARED : 0) + MOST_TOWNS * from + to;
        }

        private static int weightOfRoad(Valley valley, int from, int to, boolean limps) {
            int road = roadNumber(from, to);
            boolean isOpen = valley.milesOf(road) > 0 && valley.mayWalk(road, limps);
            return isOpen ? MILE * valley.milesOf(road) + 1 : MILE * NO_WAY;
        }

        private int weightBetween(int from, int to, boolean limps) {
            return valueAt(weights, place(from, to, limps));
        }

        /** NO_WAY or more, if there is none. */
        private int milesBetween(int from, int to, boolean limps) {
            return valueAt(weights, place(from, to, limps)) / MILE;
        }

        /** The i-th town of the way that there is, or NONE. */
        private int townOnWay(Valley valley, int from, int to, boolean limps, int i) {
            int town = from;
            for (int passed = 0; passed < MOST_TOWNS; passed++) {
                if (passed == i) {
                    return town;
                }
                if (town == to) {
                    return NONE;
                }
                town = nextTown(valley, town, to, limps);
            }
            return NONE;
        }

        private int nextTown(Valley valley, int from, int to, boolean limps) {
            int weight = weightBetween(from, to, limps);
            for (int next = 0; next < valley.townCount; next++) {
                int first = weightOfRoad(valley, from, next, limps);
                if (next != from && first + weightBetween(next, to, limps) == weight) {
                    return next;
                }
            }
            return to;
        }
    }

    /** The cheapest way to be shod, and the chance of there being one. */
    private static final class Errand {
        private int cost = NONE;
        private int miles = NONE;
        private int firstTown = NONE;
        private int secondTown = NONE;
        private long upper = 0;
        private long lower = 1;

        /** Buys only where the shop is among the open ones (bits of towns). */
        private void plan(Valley valley, Ways ways, Person buyer, int open) {
            cost = NONE;
            miles = NONE;
            firstTown = NONE;
            secondTown = NONE;
            if (buyer.hasLeft && buyer.hasRight) {
                boolean limps = buyer.limps(valley.limit);
                offer(valley, buyer, NONE, NONE, ways.milesBetween(buyer.at, buyer.home, limps));
                return;
            }
            for (int town = 0; town < valley.townCount; town++) {
                int side = valley.sideAt(town);
                boolean isOpen = isIn(open, town) && side != NOTHING;
                if (isOpen && !buyer.wears(side) && valley.hasFor(town, side, buyer)) {
                    planFrom(valley, ways, buyer, open, town);
                }
            }
        }

        private void planFrom(Valley valley, Ways ways, Person buyer, int open, int town) {
            if (buyer.hasLeft || buyer.hasRight) {
                offer(valley, buyer, town, NONE, milesOverOne(valley, ways, buyer, town));
                return;
            }
            int side = valley.sideAt(town) == LEFTS ? RIGHTS : LEFTS;
            for (int next = 0; next < valley.townCount; next++) {
                if (isIn(open, next) && valley.hasFor(next, side, buyer)) {
                    offer(valley, buyer, town, next, milesOverTwo(valley, ways, buyer, town, next));
                }
            }
        }

        /** With one shoe it limps until it has the other; then by how far the old one is worn. */
        private int milesOverOne(Valley valley, Ways ways, Person buyer, int town) {
            int there = ways.milesBetween(buyer.at, town, true);
            boolean limps = buyer.leftWear + buyer.rightWear + there >= valley.limit;
            return there + ways.milesBetween(town, buyer.home, limps);
        }

        private int milesOverTwo(Valley valley, Ways ways, Person buyer, int town, int next) {
            int there = ways.milesBetween(buyer.at, town, false);
            int between = ways.milesBetween(town, next, true);
            boolean limps = between >= valley.limit;
            return there + between + ways.milesBetween(next, buyer.home, limps);
        }

        /**
         * Towns are offered in their order, so the first of the cheapest is kept. NONE for a town
         * costs nothing.
         */
        private void offer(Valley valley, Person buyer, int first, int second, int distance) {
            int price = valley.priceAt(first) + valley.priceAt(second);
            if (distance >= NO_WAY || price > buyer.purse) {
                return;
            }
            int sum = price + valley.toll * distance;
            if (cost == NONE || sum < cost) {
                cost = sum;
                miles = distance;
                firstTown = first;
                secondTown = second;
            }
        }

        /** Each set of shops that may be open counts by its tenths. */
        private void weigh(Valley valley, Ways ways, Person buyer, int tenths) {
            int selling = sellingTowns(valley);
            upper = 0;
            lower = 1;
            for (int open = 0; open < 1 << MOST_TOWNS; open++) {
                if ((open & ~selling) == 0) {
                    plan(valley, ways, buyer, open);
                    upper += cost == NONE ? 0 : weightOf(selling, open, tenths);
                }
            }
            for (int i = 0; i < Integer.bitCount(selling); i++) {
                lower *= 10;
            }
            long divisor = greatestDivisor(upper, lower);
            if (divisor > 1) {
                upper /= divisor;
                lower /= divisor;
            }
        }

        private static int sellingTowns(Valley valley) {
            int bits = 0;
            for (int town = 0; town < valley.townCount; town++) {
                bits |= valley.sideAt(town) == NOTHING ? 0 : 1 << town;
            }
            return bits;
        }

        private static long weightOf(int selling, int open, int tenths) {
            long weight = 1;
            for (int town = 0; town < MOST_TOWNS; town++) {
                if (isIn(selling, town)) {
                    weight *= isIn(open, town) ? 10 - tenths : tenths;
                }
            }
            return weight;
        }
    }

    /** A round through all towns of a set and home again. */
    private static final class Tour {
        private static final int SETS = 1 << MOST_TOWNS;

        /** The fewest miles from a town through the rest of the set, by that rest and the town. */
        private final int[] fewest = new int[SETS * MOST_TOWNS];
        private final int[] order = new int[MOST_TOWNS];
        private int length = 0;
        private int miles = NONE;

        private void plan(Valley valley, Ways ways, Person walker, int set) {
            boolean limps = walker.limps(valley.limit);
            for (int rest = 0; rest < SETS && rest <= set; rest++) {
                if ((rest & ~set) == 0) {
                    reckon(valley, ways, walker.home, limps, rest);
                }
            }
            length = 0;
            int least = fewestFrom(walker.at, set);
            miles = least >= NO_WAY ? NONE : least;
            if (miles != NONE) {
                putInOrder(ways, walker.at, limps, set);
            }
        }

        private void reckon(Valley valley, Ways ways, int home, boolean limps, int rest) {
            for (int from = 0; from < valley.townCount; from++) {
                int least = rest == 0 ? ways.milesBetween(from, home, limps) : NO_WAY;
                for (int to = 0; to < valley.townCount; to++) {
                    if (isIn(rest, to)) {
                        least = Math.min(least, over(ways, from, to, limps, rest));
                    }
                }
                put(fewest, MOST_TOWNS * rest + from, Math.min(least, NO_WAY));
            }
        }

        private int over(Ways ways, int from, int to, boolean limps, int rest) {
            return ways.milesBetween(from, to, limps) + fewestFrom(to, rest & ~(1 << to));
        }

        private int fewestFrom(int town, int rest) {
            return valueAt(fewest, MOST_TOWNS * rest + town);
        }

        private void putInOrder(Ways ways, int start, boolean limps, int set) {
            int town = start;
            int rest = set;
            for (int i = 0; i < MOST_TOWNS && rest != 0; i++) {
                town = nextTown(ways, town, limps, rest);
                put(order, i, town);
                length++;
                rest &= ~(1 << town);
            }
        }

        private int nextTown(Ways ways, int from, boolean limps, int rest) {
            for (int to = 0; to < MOST_TOWNS; to++) {
                boolean isLeft = isIn(rest, to);
                if (isLeft && over(ways, from, to, limps, rest) == fewestFrom(from, rest)) {
                    return to;
                }
            }
            return from;
        }

        private int townAt(int i) {
            return i >= 0 && i < length ? valueAt(order, i) : NONE;
        }
    }

    /** Who fetches lefts and who rights. */
    private static final class Fetching {
        private int miles = NONE;
        private int forLefts = NONE;
        private int forRights = NONE;

        private void plan(Valley valley, Ways ways, int set, int x, int y) {
            miles = NONE;
            forLefts = NONE;
            forRights = NONE;
            for (int left = 0; left < MOST_PEOPLE; left++) {
                for (int right = 0; right < MOST_PEOPLE; right++) {
                    if (isIn(set, left) && isIn(set, right)) {
                        int homeOfLeft = valley.personAt(left).home;
                        int homeOfRight = valley.personAt(right).home;
                        int sum = left == right
                                ? milesOfOne(ways, homeOfLeft, x, y)
                                : milesOfTwo(ways, homeOfLeft, x, homeOfRight, y);
                        offer(left, right, sum);
                    }
                }
            }
        }

        /** By y first it is as far: roads are as long both ways. */
        private static int milesOfOne(Ways ways, int home, int x, int y) {
            return ways.milesBetween(home, x, false)
                    + ways.milesBetween(x, y, false)
                    + ways.milesBetween(y, home, false);
        }

        private static int milesOfTwo(Ways ways, int home, int x, int otherHome, int y) {
            return 2 * ways.milesBetween(home, x, false)
                    + 2 * ways.milesBetween(otherHome, y, false);
        }

        private void offer(int left, int right, int sum) {
            if (sum < NO_WAY && (miles == NONE || sum < miles)) {
                miles = sum;
                forLefts = left;
                forRights = right;
            }
        }
    }

    /**
     * The fewest roads that part two towns. They are all the roads out of some set of towns
     * around the one: fewer would leave a way, and more are not needed.
     */
    private static final class Cut {
        private int bits = 0;

        private void find(Valley valley, int town, int other) {
            boolean isFound = false;
            for (int around = 0; around <= valley.allTowns(); around++) {
                if (isIn(around, town) && !isIn(around, other)) {
                    int roads = roadsOutOf(valley, around);
                    bits = isFound && !isLess(roads, bits) ? bits : roads;
                    isFound = true;
                }
            }
        }

        private static boolean isLess(int roads, int others) {
            int count = Integer.bitCount(roads);
            int otherCount = Integer.bitCount(others);
            return count < otherCount || count == otherCount && roads < others;
        }

        private static int roadsOutOf(Valley valley, int around) {
            int roads = 0;
            int number = 0;
            for (int lesser = 0; lesser < valley.townCount; lesser++) {
                for (int greater = lesser + 1; greater < valley.townCount; greater++) {
                    if (valley.milesOf(roadNumber(lesser, greater)) > 0) {
                        roads |= isIn(around, lesser) != isIn(around, greater) ? 1 << number : 0;
                        number++;
                    }
                }
            }
            return roads;
        }
    }

    /** A year by draws. */
    private static final class Draws {
        private int miles = 0;
        private int shoes = 0;

        /** Changes the valley that it is given: a copy. */
        private void live(Valley copy, int seed, int turns) {
            int towns = Math.max(copy.townCount, LEAST_TOWNS);
            miles = 0;
            shoes = 0;
            int x = seed;
            for (int turn = 0; turn < turns; turn++) {
                x = (75 * x + 74) % 65537;
                takeTurn(copy, x % MOST_PEOPLE, x / MOST_PEOPLE % towns);
            }
        }

        private void takeTurn(Valley copy, int who, int town) {
            if (copy.whyNot(who, town) == FINE) {
                miles += copy.milesOf(roadNumber(copy.personAt(who).at, town));
                copy.take(who, town);
            }
            if (copy.whyNot(who, BUY) == FINE) {
                copy.take(who, BUY);
                shoes++;
            }
        }
    }
}
