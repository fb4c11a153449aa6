/**
 * Baskets at the bath: cabins in a row, a basket in each, an attendant with a lamp, a clock and a bell.
 * The face calls check what they are told and then ask the classes inside; those make their rows once,
 * with the object, so that no call makes anything anew.
 */
public final class BathBaskets {
    public static final int UNKNOWN = -1, OUTSIDE = -2, STATE = -3, FULL = -4, NO = -5, NONE = -6;
    public static final long GONE = -1000000000000000000L;

    private static final int CABINS = 10;
    private static final int BASKET_SETS = 1 << CABINS;
    private static final int THINGS = 8;
    private static final int THING_SETS = 1 << THINGS;
    private static final int MOST_MINUTES = 9;
    private static final int LAST_MINUTE = 99;
    private static final int FIRST_SIGN = 33;
    private static final int LAST_SIGN = 126;
    private static final int LAST_DAY = 60;
    private static final int LAST_TOWEL = 20;
    private static final int MOST_LENGTHS = 12;
    private static final int TENTHS = 10;
    private static final int LAST_SEED = 9999;
    private static final int MOST_DRAWS = 99;

    /* The kinds of acts bear the sign that begins them; all letters are of one kind. */
    private static final int GO = 'A';
    private static final int LOOK = '?';
    private static final int LAY = '+';
    private static final int TAKE = '-';
    private static final int CHANGE = '=';
    private static final int WAIT = '.';

    private static final int[] DRAWN_KINDS = {GO, GO, LOOK, LOOK, LAY, TAKE, CHANGE, WAIT};

    /* Why an act can not be, by the document's numbers; FREE: nothing stands in the way. */
    private static final int FREE = 0;
    private static final int THERE_ALREADY = 1;
    private static final int NOT_TO_BE_HAD = 2;
    private static final int HAD_ALREADY = 3;
    private static final int TOO_LATE = 4;

    private final Bath bath = new Bath();
    private final Notes notes = new Notes();
    private final Pad pad = new Pad();
    private final Image firstImage = new Image();
    private final Image secondImage = new Image();
    private final Evening evening = new Evening();
    private final Choice choice = new Choice();
    private final Matching matching = new Matching();
    private final Hooks hooks = new Hooks();
    private final Laws laws = new Laws();
    private final TwoPiles twoPiles = new TwoPiles();
    private final Swim swim = new Swim();

    public BathBaskets() {
    }

    // ---- 1 baskets, the clock, the attendant

    public int basket(int basket, int things, int v) {
        if (!isCabin(basket)) {
            return UNKNOWN;
        }
        if (!isThingSet(things) || !isWithin(v, 1, MOST_MINUTES)) {
            return OUTSIDE;
        }
        int before = 10 * bath.things[basket] + bath.minutes[basket];
        bath.things[basket] = things;
        bath.minutes[basket] = v;
        return before;
    }

    public int right() {
        int before = bath.strangers();
        bath.putRight();
        return before;
    }

    public int clock(int now, int bell) {
        if (!isWithin(now, 0, LAST_MINUTE) || !isWithin(bell, 0, LAST_MINUTE)) {
            return OUTSIDE;
        }
        int before = 100 * bath.now + bath.bell;
        bath.now = now;
        bath.bell = bell;
        return before;
    }

    public int attendant(int cabin, int has, int seen) {
        if (!isCabin(cabin)) {
            return UNKNOWN;
        }
        if (!isThingSet(has) || !isThingSet(seen)) {
            return OUTSIDE;
        }
        int before = bath.cabin;
        bath.cabin = cabin;
        bath.has = has;
        bath.seen = seen;
        return before;
    }

    public int say(int sign) {
        if (!isWithin(sign, FIRST_SIGN, LAST_SIGN)) {
            return OUTSIDE;
        }
        return pad.write(sign) ? pad.count : FULL;
    }

    public int wipe() {
        int before = pad.count;
        pad.count = 0;
        return before;
    }

    public int fault() {
        return pad.faultPlace();
    }

    // ---- 2 evenings

    public int judge(int what) {
        if (!isWithin(what, 0, 2)) {
            return OUTSIDE;
        }
        int hindrance = playEvening();
        if (hindrance == NO || (what == 2 && hindrance == STATE)) {
            return hindrance;
        }
        if (what == 2) {
            return evening.goneThrough;
        }
        return what == 0 ? evening.stoppedAt : evening.why;
    }

    public int behind(int cabin, int what) {
        if (!isCabin(cabin)) {
            return UNKNOWN;
        }
        if (!isWithin(what, 0, 1)) {
            return OUTSIDE;
        }
        int hindrance = playEvening();
        if (hindrance != FREE) {
            return hindrance;
        }
        int basket = evening.bath.standing[cabin];
        return what == 0 ? basket : evening.bath.things[basket];
    }

    public int his(int what) {
        if (!isWithin(what, 0, 3)) {
            return OUTSIDE;
        }
        int hindrance = playEvening();
        if (hindrance != FREE) {
            return hindrance;
        }
        switch (what) {
            case 0:
                return evening.bath.cabin;
            case 1:
                return evening.bath.has;
            case 2:
                return evening.bath.seen;
            default:
                return evening.bath.now;
        }
    }

    public int wrong(int what) {
        if (!isWithin(what, 0, 2)) {
            return OUTSIDE;
        }
        int hindrance = playEvening();
        if (hindrance != FREE) {
            return hindrance;
        }
        if (what == 0) {
            return evening.bath.strangers();
        }
        return what == 1 ? evening.lostBy : evening.lostCabin;
    }

    public int done() {
        int hindrance = playEvening();
        if (hindrance != FREE) {
            return hindrance;
        }
        bath.takeOver(evening.bath);
        pad.count = 0;
        return evening.acts;
    }

    // ---- 3 rounds, showing all, towels

    public int round(int cabin, int what) {
        if (!isCabin(cabin)) {
            return UNKNOWN;
        }
        if (!isWithin(what, 0, 1)) {
            return OUTSIDE;
        }
        choice.planRound(bath, cabin);
        return what == 0 ? choice.size : choice.members;
    }

    public int show(int set, int what) {
        if (!isThingSet(set) || !isWithin(what, 0, 1)) {
            return OUTSIDE;
        }
        choice.uncover(bath, set);
        return what == 0 ? choice.size : choice.members;
    }

    public int owners(int set, int thing) {
        if (thing != -1 && !isThing(thing)) {
            return UNKNOWN;
        }
        if (!isThingSet(set)) {
            return OUTSIDE;
        }
        matching.pair(bath, set);
        return thing == -1 ? matching.size : matching.basketOf[thing];
    }

    public int towels(int row, int what) {
        if (!isWithin(what, 0, 1) || !hooks.hang(row)) {
            return OUTSIDE;
        }
        hooks.follow();
        return what == 0 ? hooks.changes : hooks.rounds;
    }

    // ---- 4 what is found, piles, lengths

    public int found(int day, int thing) {
        if (!isThing(thing)) {
            return UNKNOWN;
        }
        if (!isWithin(day, 0, LAST_DAY)) {
            return OUTSIDE;
        }
        return notes.write(day, thing) ? notes.count : FULL;
    }

    public int forget() {
        int before = notes.count;
        notes.count = 0;
        return before;
    }

    public int fits(int i) {
        laws.gather(notes);
        if (i == -1) {
            return laws.count;
        }
        return isWithin(i, 0, laws.count - 1) ? laws.fitting[i] : NONE;
    }

    public int ask(int what) {
        if (!isWithin(what, 0, 1)) {
            return OUTSIDE;
        }
        laws.gather(notes);
        laws.chooseDay();
        return what == 0 ? laws.bestDay : laws.mostLeft;
    }

    public int piles(int a, int b, int what) {
        if (!isWithin(a, 0, LAST_TOWEL) || !isWithin(b, 0, LAST_TOWEL) || !isWithin(what, 0, 1)) {
            return OUTSIDE;
        }
        if (what == 1) {
            return twoPiles.winningTake(a, b);
        }
        return twoPiles.isLost(a, b) ? 0 : 1;
    }

    public long lengths(int k, int n, int t, int what, int part) {
        if (!isWithin(k, 0, MOST_LENGTHS) || !isWithin(n, 0, MOST_LENGTHS) || !isWithin(t, 0, TENTHS)
                || !isWithin(what, 0, 1) || !isWithin(part, 0, 1)) {
            return GONE + OUTSIDE;
        }
        swim.spread(n, t);
        long upper = what == 0 ? swim.waysToReach(k) : swim.lengthsUpTo(k);
        long common = Math.max(1, greatestDivisor(upper, swim.allWays));
        return (part == 0 ? upper : swim.allWays) / common;
    }

    public int year(int seed, int m, int what) {
        if (!isWithin(seed, 0, LAST_SEED) || !isWithin(m, 1, MOST_DRAWS) || !isWithin(what, 0, 2)) {
            return OUTSIDE;
        }
        evening.draw(bath, seed, m);
        if (what == 0) {
            return evening.bath.now;
        }
        return what == 1 ? Integer.bitCount(evening.bath.seen) : evening.bath.strangers();
    }

    public int image(int k) {
        if (!isWithin(k, 0, 1)) {
            return OUTSIDE;
        }
        Image image = imageOf(k);
        image.bath.takeOver(bath);
        image.notes.takeOver(notes);
        image.isKept = true;
        return 1;
    }

    public int restore(int k) {
        if (!isWithin(k, 0, 1)) {
            return OUTSIDE;
        }
        Image image = imageOf(k);
        if (!image.isKept) {
            return STATE;
        }
        bath.takeOver(image.bath);
        notes.takeOver(image.notes);
        return 1;
    }

    public int told(int what) {
        if (isWithin(what, 0, 6)) {
            return toldPlainly(what);
        }
        if (isWithin(what, 10, 10 + CABINS - 1)) {
            return bath.standing[what - 10];
        }
        int basket = Math.floorDiv(what, 10) - 10;
        int kind = Math.floorMod(what, 10);
        if (!isCabin(basket) || kind > 1) {
            return OUTSIDE;
        }
        return kind == 0 ? bath.things[basket] : bath.minutes[basket];
    }

    // ---- what the calls share

    private int toldPlainly(int what) {
        switch (what) {
            case 0:
                return pad.count;
            case 1:
                return bath.cabin;
            case 2:
                return bath.has;
            case 3:
                return bath.seen;
            case 4:
                return bath.now;
            case 5:
                return bath.bell;
            default:
                return notes.count;
        }
    }

    /** Tries what the pad says, aside from what is: NO by a fault, STATE by an act that can not be, else FREE. */
    private int playEvening() {
        if (pad.faultPlace() != NONE) {
            return NO;
        }
        evening.play(bath, pad);
        return evening.stoppedAt == NONE ? FREE : STATE;
    }

    private Image imageOf(int k) {
        return k == 0 ? firstImage : secondImage;
    }

    private static boolean isWithin(int number, int least, int most) {
        return number >= least && number <= most;
    }

    /** Baskets have the numbers that cabins have. */
    private static boolean isCabin(int number) {
        return isWithin(number, 0, CABINS - 1);
    }

    private static boolean isThing(int number) {
        return isWithin(number, 0, THINGS - 1);
    }

    private static boolean isThingSet(int set) {
        return isWithin(set, 0, THING_SETS - 1);
    }

    private static boolean isIn(int set, int member) {
        return ((set >> member) & 1) == 1;
    }

    private static long greatestDivisor(long a, long b) {
        long greater = a;
        long lesser = b;
        // Euclid's steps are fewer than 100 for all longs.
        for (int step = 0; step < 100 && lesser != 0; step++) {
            long rest = greater % lesser;
            greater = lesser;
            lesser = rest;
        }
        return greater;
    }

    /** The row of cabins and the attendant in it, and what acts do to them. */
    private static final class Bath {
        final int[] standing = new int[CABINS];
        final int[] things = new int[CABINS];
        final int[] minutes = new int[CABINS];
        int cabin;
        int has;
        int seen;
        int now;
        int bell;

        Bath() {
            for (int i = 0; i < CABINS; i++) {
                standing[i] = i;
                minutes[i] = 3;
            }
            bell = 60;
        }

        void takeOver(Bath other) {
            System.arraycopy(other.standing, 0, standing, 0, CABINS);
            System.arraycopy(other.things, 0, things, 0, CABINS);
            System.arraycopy(other.minutes, 0, minutes, 0, CABINS);
            cabin = other.cabin;
            has = other.has;
            seen = other.seen;
            now = other.now;
            bell = other.bell;
        }

        void putRight() {
            for (int i = 0; i < CABINS; i++) {
                standing[i] = i;
            }
        }

        /** How many cabins have another basket than their own. */
        int strangers() {
            int count = 0;
            for (int i = 0; i < CABINS; i++) {
                if (standing[i] != i) {
                    count++;
                }
            }
            return count;
        }

        int basketHere() {
            return standing[cabin];
        }

        /** The least reason why an act can not be, or FREE. */
        int whyNot(int kind, int on) {
            switch (kind) {
                case GO:
                    return on == cabin ? THERE_ALREADY : whyTooLate(Math.abs(on - cabin));
                case LOOK:
                    return whyTooLate(minutes[basketHere()]);
                case LAY:
                    return whyNotMoved(has, things[basketHere()], on);
                case TAKE:
                    return whyNotMoved(things[basketHere()], has, on);
                case CHANGE:
                    return on == cabin ? THERE_ALREADY : FREE;
                default:
                    return whyTooLate(1);
            }
        }

        private int whyNotMoved(int from, int to, int thing) {
            if (!isIn(from, thing)) {
                return NOT_TO_BE_HAD;
            }
            return isIn(to, thing) ? HAD_ALREADY : FREE;
        }

        private int whyTooLate(int duration) {
            return now + duration > bell ? TOO_LATE : FREE;
        }

        /** Does an act that can be. */
        void perform(int kind, int on) {
            int here = basketHere();
            switch (kind) {
                case GO:
                    now += Math.abs(on - cabin);
                    cabin = on;
                    break;
                case LOOK:
                    now += minutes[here];
                    seen |= things[here];
                    break;
                case LAY:
                    has &= ~(1 << on);
                    things[here] |= 1 << on;
                    break;
                case TAKE:
                    things[here] &= ~(1 << on);
                    has |= 1 << on;
                    seen |= 1 << on;
                    break;
                case CHANGE:
                    standing[cabin] = standing[on];
                    standing[on] = here;
                    break;
                default:
                    now++;
                    break;
            }
        }
    }

    /** The signs said so far, and how they make acts. */
    private static final class Pad {
        final int[] signs = new int[60];
        int count;

        boolean write(int sign) {
            if (count >= signs.length) {
                return false;
            }
            signs[count] = sign;
            count++;
            return true;
        }

        int faultPlace() {
            boolean isOpen = false;
            for (int place = 0; place < count; place++) {
                if (isOpen ? !ends(signs[place - 1], signs[place]) : !begins(signs[place])) {
                    return place;
                }
                isOpen = !isOpen && isOfTwo(signs[place]);
            }
            return isOpen ? count : NONE;
        }

        int kindAt(int place) {
            return isLetter(signs[place]) ? GO : signs[place];
        }

        /** The cabin or the thing of the act that begins there; what an act of ? or . gets is not looked at. */
        int operandAt(int place) {
            if (!isOfTwo(signs[place])) {
                return signs[place] - 'A';
            }
            int second = place + 1 < count ? signs[place + 1] : 'A';
            return isLetter(second) ? second - 'A' : second - '0';
        }

        int widthAt(int place) {
            return isOfTwo(signs[place]) ? 2 : 1;
        }

        private static boolean begins(int sign) {
            return isLetter(sign) || sign == LOOK || sign == WAIT || isOfTwo(sign);
        }

        private static boolean ends(int first, int sign) {
            return first == CHANGE ? isLetter(sign) : isThing(sign - '0');
        }

        private static boolean isOfTwo(int sign) {
            return sign == LAY || sign == TAKE || sign == CHANGE;
        }

        private static boolean isLetter(int sign) {
            return isCabin(sign - 'A');
        }
    }

    /** An evening or a year tried on a bath of its own, so that nothing is done in fact. */
    private static final class Evening {
        final Bath bath = new Bath();
        int acts;
        int stoppedAt;
        int why;
        int goneThrough;
        int lostBy;
        int lostCabin;

        /** The pad must be without fault. */
        void play(Bath from, Pad pad) {
            bath.takeOver(from);
            acts = 0;
            stoppedAt = NONE;
            why = NONE;
            goneThrough = 0;
            lostBy = NONE;
            lostCabin = NONE;
            for (int place = 0; place < pad.count && stoppedAt == NONE; place += pad.widthAt(place)) {
                playAct(pad.kindAt(place), pad.operandAt(place));
            }
        }

        private void playAct(int kind, int on) {
            int reason = bath.whyNot(kind, on);
            if (reason != FREE) {
                stoppedAt = acts;
                why = reason;
                return;
            }
            if (kind == LOOK) {
                goneThrough |= 1 << bath.basketHere();
            }
            if (kind == CHANGE && lostBy == NONE) {
                noteLoss(Math.min(bath.cabin, on), Math.max(bath.cabin, on));
            }
            bath.perform(kind, on);
            acts++;
        }

        /** A basket that is changed always leaves its cabin: who has his own before it has lost it by it. */
        private void noteLoss(int lesser, int greater) {
            if (bath.standing[lesser] == lesser) {
                lostBy = acts;
                lostCabin = lesser;
            } else if (bath.standing[greater] == greater) {
                lostBy = acts;
                lostCabin = greater;
            }
        }

        void draw(Bath from, int seed, int draws) {
            bath.takeOver(from);
            int x = seed;
            for (int i = 0; i < draws; i++) {
                x = (75 * x + 74) % 65537;
                int kind = DRAWN_KINDS[x % 8];
                int y = x / 8;
                int on = kind == LAY || kind == TAKE ? y % THINGS : y % CABINS;
                if (bath.whyNot(kind, on) == FREE) {
                    bath.perform(kind, on);
                }
            }
        }
    }

    /** On which day which thing was found. */
    private static final class Notes {
        final int[] days = new int[8];
        final int[] things = new int[8];
        int count;

        void takeOver(Notes other) {
            System.arraycopy(other.days, 0, days, 0, days.length);
            System.arraycopy(other.things, 0, things, 0, things.length);
            count = other.count;
        }

        boolean write(int day, int thing) {
            if (count >= days.length) {
                return false;
            }
            days[count] = day;
            things[count] = thing;
            count++;
            return true;
        }
    }

    /** By which laws things are found, and what to ask to tell them apart. */
    private static final class Laws {
        final int[] fitting = new int[THINGS * THINGS];
        final int[] left = new int[THINGS];
        int count;
        int bestDay;
        int mostLeft;

        void gather(Notes notes) {
            count = 0;
            for (int a = 0; a < THINGS; a++) {
                for (int b = 0; b < THINGS; b++) {
                    if (agree(notes, a, b)) {
                        fitting[count] = 10 * a + b;
                        count++;
                    }
                }
            }
        }

        private static boolean agree(Notes notes, int a, int b) {
            for (int i = 0; i < notes.count; i++) {
                if (thingOn(notes.days[i], a, b) != notes.things[i]) {
                    return false;
                }
            }
            return true;
        }

        private static int thingOn(int day, int a, int b) {
            return (a * day + b) % THINGS;
        }

        /** Works on the laws gathered before. */
        void chooseDay() {
            bestDay = NONE;
            mostLeft = NONE;
            if (count == 0) {
                return;
            }
            // From day 8 on the same things come again, so that no later day is ever the least.
            for (int day = 0; day < THINGS; day++) {
                int most = mostLeftAfter(day);
                if (bestDay == NONE || most < mostLeft) {
                    bestDay = day;
                    mostLeft = most;
                }
            }
        }

        private int mostLeftAfter(int day) {
            for (int thing = 0; thing < THINGS; thing++) {
                left[thing] = 0;
            }
            int most = 0;
            for (int i = 0; i < count; i++) {
                int thing = thingOn(day, fitting[i] / 10, fitting[i] % 10);
                left[thing]++;
                most = Math.max(most, left[thing]);
            }
            return most;
        }
    }

    /** What is kept: all but the pad. */
    private static final class Image {
        final Bath bath = new Bath();
        final Notes notes = new Notes();
        boolean isKept;
    }

    /** The best among all sets of ten cabins or baskets. */
    private static final class Choice {
        final int[] totals = new int[BASKET_SETS];
        int size;
        int members;

        /** The most cabins; as sets are tried rising, the first of a size is the least. */
        void planRound(Bath bath, int goal) {
            sumMinutes(bath);
            size = NONE;
            members = NONE;
            int time = bath.bell - bath.now;
            for (int set = 0; set < BASKET_SETS; set++) {
                int count = Integer.bitCount(set);
                if (count > size && totals[set] + walk(set, bath.cabin, goal) <= time) {
                    size = count;
                    members = set;
                }
            }
        }

        private void sumMinutes(Bath bath) {
            totals[0] = 0;
            for (int cabin = 0; cabin < CABINS; cabin++) {
                int bit = 1 << cabin;
                int minutes = bath.minutes[bath.standing[cabin]];
                for (int rest = 0; rest < bit; rest++) {
                    totals[bit | rest] = totals[rest] + minutes;
                }
            }
        }

        /** The shortest way from start by all cabins of the set to the goal: to one end first, then to the other. */
        private static int walk(int set, int start, int goal) {
            int all = set | (1 << start) | (1 << goal);
            int least = 0;
            while (least < CABINS && !isIn(all, least)) {
                least++;
            }
            int greatest = CABINS - 1;
            while (greatest > 0 && !isIn(all, greatest)) {
                greatest--;
            }
            int leastFirst = start - least + greatest - goal;
            int greatestFirst = greatest - start + goal - least;
            return greatest - least + Math.min(leastFirst, greatestFirst);
        }

        /** The fewest baskets that show what of the set is not seen yet; the first of a size is the least here, too. */
        void uncover(Bath bath, int set) {
            joinThings(bath);
            size = NONE;
            members = NONE;
            int missing = set & ~bath.seen;
            for (int baskets = 0; baskets < BASKET_SETS; baskets++) {
                if ((missing & ~totals[baskets]) == 0) {
                    int count = Integer.bitCount(baskets);
                    if (size == NONE || count < size) {
                        size = count;
                        members = baskets;
                    }
                }
            }
        }

        private void joinThings(Bath bath) {
            totals[0] = 0;
            for (int basket = 0; basket < CABINS; basket++) {
                int bit = 1 << basket;
                for (int rest = 0; rest < bit; rest++) {
                    totals[bit | rest] = totals[rest] | bath.things[basket];
                }
            }
        }
    }

    /** Things, each with a basket of its own that has it. */
    private static final class Matching {
        final int[] homes = new int[THING_SETS];
        final int[] basketOf = new int[THINGS];
        int size;

        void pair(Bath bath, int set) {
            joinHomes(bath);
            int free = BASKET_SETS - 1;
            int rest = set;
            size = mostAtOnce(set, free);
            int needed = size;
            for (int thing = 0; thing < THINGS; thing++) {
                rest &= ~(1 << thing);
                basketOf[thing] = isIn(set, thing) ? leastBasket(homes[1 << thing] & free, rest, free, needed) : NONE;
                if (basketOf[thing] != NONE) {
                    free &= ~(1 << basketOf[thing]);
                    needed--;
                }
            }
        }

        /** Of each set of things the baskets that have one of them. */
        private void joinHomes(Bath bath) {
            homes[0] = 0;
            for (int thing = 0; thing < THINGS; thing++) {
                int bit = 1 << thing;
                int ofThing = 0;
                for (int basket = 0; basket < CABINS; basket++) {
                    if (isIn(bath.things[basket], thing)) {
                        ofThing |= 1 << basket;
                    }
                }
                for (int others = 0; others < bit; others++) {
                    homes[bit | others] = homes[others] | ofThing;
                }
            }
        }

        /** The least basket for one thing by which all that are needed are still reached with the rest. */
        private int leastBasket(int candidates, int rest, int free, int needed) {
            for (int basket = 0; basket < CABINS; basket++) {
                if (isIn(candidates, basket) && mostAtOnce(rest, free & ~(1 << basket)) + 1 == needed) {
                    return basket;
                }
            }
            return NONE;
        }

        /**
         * By Koenig's theorem, so that no way need be sought: as many as the least, over all parts of the set,
         * of the things outside the part and the free baskets of those in it.
         */
        private int mostAtOnce(int set, int free) {
            int most = Integer.bitCount(set);
            for (int part = set; part > 0; part = (part - 1) & set) {
                int bound = Integer.bitCount(set & ~part) + Integer.bitCount(homes[part] & free);
                most = Math.min(most, bound);
            }
            return most;
        }
    }

    /** Six towels on six hooks. */
    private static final class Hooks {
        final int[] whose = new int[6];
        int changes;
        int rounds;

        /** False, if the row is none. */
        boolean hang(int row) {
            int rest = row;
            int met = 0;
            for (int hook = whose.length - 1; hook >= 0; hook--) {
                int digit = rest % 10;
                if (!isWithin(digit, 0, whose.length - 1) || isIn(met, digit)) {
                    return false;
                }
                met |= 1 << digit;
                whose[hook] = digit;
                rest /= 10;
            }
            return rest == 0;
        }

        /** Each ring of towels wants one change fewer than it is long, and as many rounds as it is long. */
        void follow() {
            changes = 0;
            rounds = 1;
            int met = 0;
            for (int start = 0; start < whose.length; start++) {
                int length = 0;
                int hook = start;
                while (length < whose.length && !isIn(met, hook)) {
                    met |= 1 << hook;
                    hook = whose[hook];
                    length++;
                }
                if (length > 0) {
                    changes += length - 1;
                    rounds = leastMultiple(rounds, length);
                }
            }
        }

        private static int leastMultiple(int a, int b) {
            int multiple = a;
            for (int i = 1; i < b && multiple % b != 0; i++) {
                multiple += a;
            }
            return multiple;
        }
    }

    /** Two piles of towels, taken from by turns. */
    private static final class TwoPiles {
        /* With how many on the other pile who has to take has lost; for each number there is just one. */
        final int[] lostWith = new int[LAST_TOWEL + 1];

        /** The lost pairs are 0 apart, 1 apart, and so on, each from the least number that is in no pair yet. */
        TwoPiles() {
            for (int i = 0; i <= LAST_TOWEL; i++) {
                lostWith[i] = NONE;
            }
            int apart = 0;
            for (int least = 0; least <= LAST_TOWEL; least++) {
                if (lostWith[least] == NONE) {
                    lostWith[least] = least + apart;
                    if (least + apart <= LAST_TOWEL) {
                        lostWith[least + apart] = least;
                    }
                    apart++;
                }
            }
        }

        boolean isLost(int a, int b) {
            return lostWith[a] == b;
        }

        int winningTake(int a, int b) {
            for (int first = 0; first <= a; first++) {
                int second = b - lostWith[a - first];
                boolean fromOne = (first == 0) != (second == 0);
                boolean fromBoth = first == second && first > 0;
                if (second >= 0 && (fromOne || fromBoth)) {
                    return 100 * first + second;
                }
            }
            return NONE;
        }
    }

    /** Lengths swum by chance, told in ways out of all ways. */
    private static final class Swim {
        final long[] ways = new long[MOST_LENGTHS + 1];
        long allWays;

        /** In how many of 10 to the minutes ways he swims each number of lengths. */
        void spread(int minutes, int tenths) {
            for (int i = 0; i <= MOST_LENGTHS; i++) {
                ways[i] = 0;
            }
            ways[0] = 1;
            allWays = 1;
            for (int minute = 0; minute < minutes; minute++) {
                for (int i = MOST_LENGTHS; i > 0; i--) {
                    ways[i] = ways[i] * (TENTHS - tenths) + ways[i - 1] * tenths;
                }
                ways[0] *= TENTHS - tenths;
                allWays *= TENTHS;
            }
        }

        long waysToReach(int wanted) {
            long sum = 0;
            for (int i = wanted; i <= MOST_LENGTHS; i++) {
                sum += ways[i];
            }
            return sum;
        }

        /** Lengths of all ways together, no way counting more than are wanted. */
        long lengthsUpTo(int wanted) {
            long sum = 0;
            for (int i = 1; i <= MOST_LENGTHS; i++) {
                sum += Math.min(i, wanted) * ways[i];
            }
            return sum;
        }
    }
}
