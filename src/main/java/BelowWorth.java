/**
 * An owner of old ships, what he insures them for, and what their sinking brings him.
 * The document (../shared/DOC.md) tells what each call answers; words in capitals are its terms.
 */
public final class BelowWorth {
    public static final int UNKNOWN = -1, OUTSIDE = -2, STATE = -3, FULL = -4, NO = -5, NONE = -6;
    public static final long GONE = -1000000000000000000L;

    private static final int SHIPS = 6, OFFICES = 3, SIGNS = 60, NAMES = 8, TALES = 8, IMAGES = 2;
    private static final int MOST_AGE = 40, MOST_MONEY = 99, MOST_LOAD = 9, MOST_CREW = 20;
    private static final int MOST_NERVE = 99, MOST_FREIGHT = 20, MOST_SEASONS = 99;
    private static final int ALL_DIGITS = 999999, MOST_PURSE = 54, MOST_VOYAGES = 6;
    private static final int INSURE = 'i', LADE = 'l', PAINT = 'p', COME_HOME = 's', SINK = 'x', TURN = '.';
    private static final int NOT_THERE = 1, NOT_AFLOAT = 2, SUM_TOO_HIGH = 3, LOAD_WRONG = 4, CREW_STAYS = 5,
            LAST_SEASON = 6;
    /** GAIN may be below 0, which would look like a refusal: it is told with this much on top. */
    private static final int ABOVE_REFUSALS = 100000;

    private final Owner now;
    /** Where ACTS are tried, so that what is asked behind them is not done in fact. */
    private final Owner trial;
    private final Pad pad;
    private final Voyages voyages;
    private final Tales tales;
    private final Namings namings;
    private final Image[] images;
    private final long[] chances;

    public BelowWorth() {
        now = new Owner();
        trial = new Owner();
        pad = new Pad();
        voyages = new Voyages();
        tales = new Tales();
        namings = new Namings();
        images = new Image[IMAGES];
        for (int k = 0; k < images.length; k++) {
            images[k] = new Image();
        }
        chances = new long[SHIPS + 1];
    }

    // ---- 1 ships, the owner

    public int ship(int ship, int age, int worth, int crew) {
        Ship place = now.placeAt(ship);
        if (place == null) {
            return UNKNOWN;
        }
        if (!within(age, 0, MOST_AGE) || !within(worth, 0, MOST_MONEY) || !within(crew, 1, MOST_CREW)) {
            return OUTSIDE;
        }
        place.launch(age, worth, crew);
        return now.countThere();
    }

    public int sell(int ship) {
        Ship one = now.shipAt(ship);
        if (one == null) {
            return UNKNOWN;
        }
        one.there = false;
        return now.countThere();
    }

    public int insure(int ship, int office, int v) {
        Ship one = now.shipAt(ship);
        if (one == null) {
            return UNKNOWN;
        }
        if (!within(office, 0, OFFICES - 1) || !within(v, 0, MOST_MONEY)) {
            return OUTSIDE;
        }
        int before = one.sumAt(office);
        one.putSum(office, v);
        return before;
    }

    public int load(int ship, int v) {
        Ship one = now.shipAt(ship);
        if (one == null) {
            return UNKNOWN;
        }
        if (!within(v, 0, MOST_LOAD)) {
            return OUTSIDE;
        }
        int before = one.load;
        one.load = v;
        return before;
    }

    public int set(int which, int v) {
        int before = OUTSIDE;
        if (which == 0 && within(v, 0, MOST_NERVE)) {
            before = now.nerve;
            now.nerve = v;
        } else if (which == 1 && within(v, 0, MOST_FREIGHT)) {
            before = now.freight;
            now.freight = v;
        } else if (which == 2 && within(v, 0, 1)) {
            before = now.season;
            now.season = v;
        }
        return before;
    }

    public int say(int sign) {
        if (!within(sign, 33, 126)) {
            return OUTSIDE;
        }
        return pad.put(sign) ? pad.count : FULL;
    }

    public int wipe() {
        int before = pad.count;
        pad.count = 0;
        return before;
    }

    public int fault() {
        return pad.faultPlace();
    }

    // ---- 2 voyages

    public int judge(int what) {
        if (!within(what, 0, 2)) {
            return OUTSIDE;
        }
        int refusal = tryVoyages();
        if (refusal == NO) {
            return NO;
        }
        if (what == 0) {
            return voyages.badAct;
        }
        if (what == 1) {
            return voyages.why;
        }
        return refusal == 0 ? voyages.sailings : refusal;
    }

    public int behind(int ship, int what) {
        if (now.shipAt(ship) == null) {
            return UNKNOWN;
        }
        if (!within(what, 0, 4)) {
            return OUTSIDE;
        }
        int refusal = tryVoyages();
        if (refusal != 0) {
            return refusal;
        }
        Ship one = trial.shipAt(ship);
        if (one == null) {
            return UNKNOWN;
        }
        switch (what) {
            case 0: return one.age;
            case 1: return one.load;
            case 2: return one.allSums();
            case 3: return trial.riskWith(one, one.load);
            default: return one.afloat ? 1 : 0;
        }
    }

    public int total(int what) {
        if (!within(what, 0, 3)) {
            return OUTSIDE;
        }
        int refusal = tryVoyages();
        if (refusal != 0) {
            return refusal;
        }
        switch (what) {
            case 0: return trial.gain + ABOVE_REFUSALS;
            case 1: return trial.drowned;
            case 2: return trial.season;
            default: return trial.seasons;
        }
    }

    public int sunk(int what) {
        if (!within(what, 0, 2)) {
            return OUTSIDE;
        }
        int refusal = tryVoyages();
        if (refusal != 0) {
            return refusal;
        }
        switch (what) {
            case 0: return voyages.sunkAct;
            case 1: return voyages.sunkShip;
            default: return voyages.sinkings;
        }
    }

    public int done() {
        int refusal = tryVoyages();
        if (refusal != 0) {
            return refusal;
        }
        now.copyFrom(trial);
        pad.count = 0;
        return voyages.acts;
    }

    // ---- 3 what it brings

    public long mean(int ship, int n, int part) {
        Ship one = now.shipAt(ship);
        if (one == null) {
            return GONE + UNKNOWN;
        }
        if (!within(n, 0, MOST_LOAD) || !within(part, 0, 1)) {
            return GONE + OUTSIDE;
        }
        return partOf(now.hundredfoldMean(one, n, one.allSums()), 100, part);
    }

    public int deep(int ship) {
        Ship one = now.shipAt(ship);
        if (one == null) {
            return UNKNOWN;
        }
        return now.deepestFor(one, one.allSums());
    }

    public int share(int ship, int v) {
        Ship one = now.shipAt(ship);
        if (one == null) {
            return UNKNOWN;
        }
        if (!within(v, 1, MOST_LOAD)) {
            return OUTSIDE;
        }
        int sums = one.allSums();
        for (int tenths = 0; tenths <= 10; tenths++) {
            if (now.deepestFor(one, sums * (10 - tenths) / 10) <= v) {
                return tenths;
            }
        }
        return NONE;
    }

    public long losses(int k, int part) {
        if (!within(k, -1, SHIPS) || !within(part, 0, 1)) {
            return GONE + OUTSIDE;
        }
        if (k < 0) {
            return partOf(now.hundredfoldMeanOfAll(), 100, part);
        }
        long lower = now.fillChances(chances);
        long upper = 0;
        for (int lost = k; lost < chances.length; lost++) {
            upper += chances[lost];
        }
        return partOf(upper, lower, part);
    }

    public int fleet(int prices, int brings, int v, int what) {
        if (!within(prices, 0, ALL_DIGITS) || !within(brings, 0, ALL_DIGITS)
                || !within(v, 0, MOST_PURSE) || !within(what, 0, 1)) {
            return OUTSIDE;
        }
        int priceOf = turned(prices), broughtBy = turned(brings);
        int most = 0, which = 0;
        for (int bits = 0; bits < 1 << SHIPS; bits++) {
            int brought = digitsAdded(broughtBy, bits);
            if (brought > most && digitsAdded(priceOf, bits) <= v) {
                most = brought;
                which = bits;
            }
        }
        return what == 0 ? most : which;
    }

    public int holds(int weights, int what) {
        if (!within(weights, 0, ALL_DIGITS) || !within(what, 0, 1)) {
            return OUTSIDE;
        }
        int all = digitsAdded(weights, (1 << SHIPS) - 1);
        int least = all, which = 0;
        for (int bits = 0; bits < 1 << SHIPS; bits++) {
            int more = Math.abs(all - 2 * digitsAdded(weights, bits));
            if (more < least) {
                least = more;
                which = bits;
            }
        }
        return what == 0 ? least : which;
    }

    // ---- 4 who means it, names

    public long meant(int p, int q, int n, int s, int part) {
        if (!within(p, 0, 100) || !within(q, 0, 100) || !within(n, 0, MOST_VOYAGES) || !within(s, 0, n)
                || !within(part, 0, 1)) {
            return GONE + OUTSIDE;
        }
        long byChance = likelihood(p, n, s), byWill = likelihood(q, n, s);
        long either = byChance + byWill;
        return either == 0 ? partOf(0, 1, part) : partOf(byWill, either, part);
    }

    public int tale(int one, int two, boolean same) {
        if (!within(one, 0, NAMES - 1) || !within(two, 0, NAMES - 1) || one == two) {
            return UNKNOWN;
        }
        return tales.put(one, two, same) ? tales.count : FULL;
    }

    public int forget() {
        int before = tales.count;
        tales.count = 0;
        return before;
    }

    public int broken(int what) {
        if (!within(what, 0, 1)) {
            return OUTSIDE;
        }
        namings.hear(tales);
        return what == 0 ? namings.firstLeftOut : namings.leftOut;
    }

    public int ones() {
        namings.hear(tales);
        return fewestShips(namings, 0, 0, NAMES);
    }

    public int berth(int v, int k, int what) {
        if (!within(v, 1, 99) || !within(k, 1, 9) || !within(what, 0, 1)) {
            return OUTSIDE;
        }
        // Who has to bid on v - 1 is sorry; the other can always make two bids together k + 1.
        int bid = (v - 1) % (k + 1);
        if (what == 0) {
            return bid == 0 ? 0 : 1;
        }
        return bid == 0 ? NONE : bid;
    }

    public int year(int seed, int m, int what) {
        if (!within(seed, 0, 9999) || !within(m, 1, 99) || !within(what, 0, 2)) {
            return OUTSIDE;
        }
        trial.copyFrom(now);
        int x = seed;
        for (int act = 0; act < m; act++) {
            x = (75 * x + 74) % 65537;
            trial.actAsDrawn(x);
        }
        switch (what) {
            case 0: return trial.gain + ABOVE_REFUSALS;
            case 1: return trial.drowned;
            default: return trial.countAfloat();
        }
    }

    public int image(int k) {
        Image one = imageAt(k);
        if (one == null) {
            return OUTSIDE;
        }
        one.owner.copyFrom(now);
        one.tales.copyFrom(tales);
        one.kept = true;
        return 1;
    }

    public int restore(int k) {
        Image one = imageAt(k);
        if (one == null) {
            return OUTSIDE;
        }
        if (!one.kept) {
            return STATE;
        }
        now.copyFrom(one.owner);
        tales.copyFrom(one.tales);
        return 1;
    }

    public int told(int what) {
        if (what >= 10) {
            Ship one = now.shipAt(what / 10 - 1);
            return one == null ? OUTSIDE : toldOf(one, what % 10);
        }
        switch (what) {
            case 0: return pad.count;
            case 1: return now.bitsThere();
            case 2: return now.nerve;
            case 3: return now.freight;
            case 4: return now.season;
            case 5: return now.seasons;
            case 6: return tales.count;
            case 7: return now.drowned;
            case 8: return now.gain + ABOVE_REFUSALS;
            default: return OUTSIDE;
        }
    }

    // ---- what the calls share

    private static boolean within(int v, int least, int most) {
        return v >= least && v <= most;
    }

    /** Tries the PAD's ACTS from all as it is: 0, or NO or STATE. */
    private int tryVoyages() {
        if (pad.faultPlace() != NONE) {
            return NO;
        }
        trial.copyFrom(now);
        voyages.run(pad, trial);
        return voyages.badAct == NONE ? 0 : STATE;
    }

    private Image imageAt(int k) {
        return k >= 0 && k < images.length ? images[k] : null;
    }

    private static int toldOf(Ship one, int item) {
        switch (item) {
            case 0: return one.age;
            case 1: return one.worth;
            case 2:
            case 3:
            case 4: return one.sumAt(item - 2);
            case 5: return one.load;
            case 6: return one.crew;
            case 7: return one.afloat ? 1 : 0;
            default: return OUTSIDE;
        }
    }

    /** The upper (part 0) or the lower number (1) of a fraction in lowest terms; lower is above 0. */
    private static long partOf(long upper, long lower, int part) {
        long common = commonDivisor(Math.abs(upper), lower);
        long told = part == 0 ? upper : lower;
        return common == 0 ? told : told / common;
    }

    private static long commonDivisor(long one, long other) {
        // Euclid's steps on numbers of 63 bits are less than 100.
        for (int step = 0; step < 100 && other != 0; step++) {
            long rest = one % other;
            one = other;
            other = rest;
        }
        return one;
    }

    /** How likely s of n are lost, each by rate of a hundred, times 100 to the n; any one order of them. */
    private static long likelihood(int rate, int n, int s) {
        long product = 1;
        for (int voyage = 0; voyage < n; voyage++) {
            product *= voyage < s ? rate : 100 - rate;
        }
        return product;
    }

    /** Six digits the other way round: SHIP 0's digit is the highest, but its bit the lowest. */
    private static int turned(int digits) {
        int result = 0, rest = digits;
        for (int place = 0; place < SHIPS; place++) {
            result = result * 10 + rest % 10;
            rest /= 10;
        }
        return result;
    }

    /** Of six digits those whose bits are set, together; the last digit is bit 0. */
    private static int digitsAdded(int digits, int bits) {
        int sum = 0, rest = digits;
        for (int place = 0; place < SHIPS; place++) {
            if ((bits >> place & 1) == 1) {
                sum += rest % 10;
            }
            rest /= 10;
        }
        return sum;
    }

    /** The least of best and of what is needed if NAMES ahead of this one are on so many ships as they are. */
    private static int fewestShips(Namings namings, int name, int used, int best) {
        if (used >= best) {
            return best;
        }
        if (name >= NAMES) {
            return used;
        }
        if (namings.firstNameOf(name) != name) {
            return fewestShips(namings, name + 1, used, best);
        }
        int least = best;
        for (int ship = 0; ship <= used && ship < NAMES; ship++) {
            if (namings.mayBeOn(name, ship)) {
                namings.putOn(name, ship);
                least = fewestShips(namings, name + 1, Math.max(used, ship + 1), least);
            }
        }
        return least;
    }

    // ---- the classes inside

    private static final class Ship {
        boolean there, afloat;
        int age, worth, crew, load;
        final int[] sums;

        Ship() {
            sums = new int[OFFICES];
        }

        void launch(int newAge, int newWorth, int newCrew) {
            there = true;
            afloat = true;
            age = newAge;
            worth = newWorth;
            crew = newCrew;
            load = 0;
            for (int office = 0; office < sums.length; office++) {
                sums[office] = 0;
            }
        }

        int sumAt(int office) {
            return office >= 0 && office < sums.length ? sums[office] : 0;
        }

        void putSum(int office, int v) {
            if (office >= 0 && office < sums.length) {
                sums[office] = v;
            }
        }

        int allSums() {
            int all = 0;
            for (int office = 0; office < sums.length; office++) {
                all += sums[office];
            }
            return all;
        }

        void copyFrom(Ship other) {
            there = other.there;
            afloat = other.afloat;
            age = other.age;
            worth = other.worth;
            crew = other.crew;
            load = other.load;
            for (int office = 0; office < sums.length; office++) {
                sums[office] = other.sumAt(office);
            }
        }
    }

    /** The SHIPS and all that the owner has or sets; it can be copied to be tried or kept. */
    private static final class Owner {
        final Ship[] ships;
        int nerve, freight, season, seasons, gain, drowned;

        Owner() {
            ships = new Ship[SHIPS];
            for (int number = 0; number < ships.length; number++) {
                ships[number] = new Ship();
            }
            nerve = 60;
            freight = 5;
        }

        void copyFrom(Owner other) {
            for (int number = 0; number < ships.length; number++) {
                Ship mine = placeAt(number), its = other.placeAt(number);
                if (mine != null && its != null) {
                    mine.copyFrom(its);
                }
            }
            nerve = other.nerve;
            freight = other.freight;
            season = other.season;
            seasons = other.seasons;
            gain = other.gain;
            drowned = other.drowned;
        }

        /** Where a SHIP of that number is, or could be; null if there is no such number. */
        Ship placeAt(int number) {
            return number >= 0 && number < ships.length ? ships[number] : null;
        }

        /** The SHIP of that number, or null if it is not there. */
        Ship shipAt(int number) {
            Ship place = placeAt(number);
            return place != null && place.there ? place : null;
        }

        Ship shipAfloatAt(int number) {
            Ship one = shipAt(number);
            return one != null && one.afloat ? one : null;
        }

        int bitsThere() {
            int bits = 0;
            for (int number = 0; number < SHIPS; number++) {
                if (shipAt(number) != null) {
                    bits |= 1 << number;
                }
            }
            return bits;
        }

        int countThere() {
            return Integer.bitCount(bitsThere());
        }

        int countAfloat() {
            int count = 0;
            for (int number = 0; number < SHIPS; number++) {
                if (shipAfloatAt(number) != null) {
                    count++;
                }
            }
            return count;
        }

        int riskWith(Ship one, int load) {
            return one.age + 3 * load + 15 * season;
        }

        int hundredfoldMean(Ship one, int load, int sums) {
            int risk = riskWith(one, load);
            return risk * (sums - one.worth) + (100 - risk) * load * freight;
        }

        int hundredfoldMeanOfAll() {
            int all = 0;
            for (int number = 0; number < SHIPS; number++) {
                Ship one = shipAfloatAt(number);
                if (one != null) {
                    all += hundredfoldMean(one, one.load, one.allSums());
                }
            }
            return all;
        }

        /** DEEP, if so much is insured in all. */
        int deepestFor(Ship one, int sums) {
            int best = 1;
            for (int load = 2; load <= MOST_LOAD; load++) {
                if (hundredfoldMean(one, load, sums) > hundredfoldMean(one, best, sums)) {
                    best = load;
                }
            }
            return best;
        }

        /** Tells the row how likely just so many are lost, times 100 for each that is AFLOAT: that number. */
        long fillChances(long[] row) {
            for (int lost = 0; lost < row.length; lost++) {
                row[lost] = lost == 0 ? 1 : 0;
            }
            long whole = 1;
            for (int number = 0; number < SHIPS; number++) {
                Ship one = shipAfloatAt(number);
                if (one != null) {
                    addChance(row, riskWith(one, one.load));
                    whole *= 100;
                }
            }
            return whole;
        }

        private static void addChance(long[] row, int risk) {
            for (int lost = row.length - 1; lost >= 0; lost--) {
                long oneLess = lost > 0 ? row[lost - 1] : 0;
                row[lost] = row[lost] * (100 - risk) + oneLess * risk;
            }
        }

        /** Why an ACT can not be, the least reason; 0 if it can. */
        int reasonAgainst(int kind, int number, int v) {
            if (kind == TURN) {
                return seasons >= MOST_SEASONS ? LAST_SEASON : 0;
            }
            Ship one = shipAt(number);
            if (one == null) {
                return NOT_THERE;
            }
            if (!one.afloat) {
                return NOT_AFLOAT;
            }
            switch (kind) {
                case INSURE: return one.sumAt(v) + 10 > MOST_MONEY ? SUM_TOO_HIGH : 0;
                case LADE: return one.load == v ? LOAD_WRONG : 0;
                case COME_HOME:
                case SINK: return reasonAgainstSailing(one);
                default: return 0;
            }
        }

        private int reasonAgainstSailing(Ship one) {
            if (one.load == 0) {
                return LOAD_WRONG;
            }
            return riskWith(one, one.load) > nerve ? CREW_STAYS : 0;
        }

        /** Does an ACT that can be. */
        void act(int kind, int number, int v) {
            if (kind == TURN) {
                season = 1 - season;
                seasons++;
                return;
            }
            Ship one = shipAt(number);
            if (one == null) {
                return;
            }
            switch (kind) {
                case INSURE: one.putSum(v, one.sumAt(v) + 10); break;
                case LADE: one.load = v; break;
                case PAINT: one.age /= 2; break;
                case COME_HOME: comeHome(one); break;
                case SINK: sink(one); break;
                default: break;
            }
        }

        private void comeHome(Ship one) {
            gain += one.load * freight;
            one.age = Math.min(one.age + 1, MOST_AGE);
            one.load = 0;
        }

        private void sink(Ship one) {
            gain += one.allSums() - one.worth;
            drowned += one.crew;
            one.afloat = false;
        }

        /** Does the ACT that x draws, if it can be. */
        void actAsDrawn(int x) {
            int number = x % 6, draw = x / 6 % 8, rest = x / 48;
            int kind = kindDrawn(draw, number, rest % 100);
            int v = kind == INSURE ? rest % OFFICES : rest % 10;
            if (reasonAgainst(kind, number, v) == 0) {
                act(kind, number, v);
            }
        }

        private int kindDrawn(int draw, int number, int hundredth) {
            switch (draw) {
                case 0: return INSURE;
                case 1:
                case 2: return LADE;
                case 3: return PAINT;
                case 4: return TURN;
                default: break;
            }
            Ship one = shipAt(number);
            return one != null && hundredth < riskWith(one, one.load) ? SINK : COME_HOME;
        }
    }

    /** The signs of VOYAGES. */
    private static final class Pad {
        /** What may stand at a place: an ACT's first sign, what a SHIP does, an office, a LOAD. */
        private static final int START = 0, DEED = 1, OFFICE = 2, DIGIT = 3;

        final int[] signs;
        int count;

        Pad() {
            signs = new int[SIGNS];
        }

        boolean put(int sign) {
            if (count < 0 || count >= signs.length) {
                return false;
            }
            signs[count] = sign;
            count++;
            return true;
        }

        /** The sign there, 0 if there is none. */
        int signAt(int place) {
            return place >= 0 && place < count && place < signs.length ? signs[place] : 0;
        }

        int faultPlace() {
            int due = START;
            for (int place = 0; place < count; place++) {
                due = dueBehind(due, signAt(place));
                if (due == NONE) {
                    return place;
                }
            }
            return due == START ? NONE : count;
        }

        /** What is due behind a sign where one was due; NONE if the sign can not stand there. */
        private static int dueBehind(int due, int sign) {
            switch (due) {
                case START: return sign == TURN ? START : isLetter(sign) ? DEED : NONE;
                case DEED: return dueBehindDeed(sign);
                case OFFICE: return within(sign - '0', 0, OFFICES - 1) ? START : NONE;
                default: return within(sign - '0', 0, MOST_LOAD) ? START : NONE;
            }
        }

        private static int dueBehindDeed(int sign) {
            switch (sign) {
                case INSURE: return OFFICE;
                case LADE: return DIGIT;
                case PAINT:
                case COME_HOME:
                case SINK: return START;
                default: return NONE;
            }
        }

        private static boolean isLetter(int sign) {
            return within(sign - 'A', 0, SHIPS - 1);
        }

        /** Whether an ACT begins there, if there is no FAULT: its first sign stands nowhere else in it. */
        boolean actBeginsAt(int place) {
            int sign = signAt(place);
            return sign == TURN || isLetter(sign);
        }

        int kindAt(int place) {
            return signAt(place) == TURN ? TURN : signAt(place + 1);
        }

        int shipNumberAt(int place) {
            return signAt(place) - 'A';
        }

        int numberAt(int place) {
            return signAt(place + 2) - '0';
        }
    }

    /** What is told of a PAD's ACTS once they have been tried. */
    private static final class Voyages {
        int acts, badAct, why, sailings, sunkAct, sunkShip, sinkings;

        /** Does the ACTS to the owner, up to the first that can not be. */
        void run(Pad pad, Owner owner) {
            begin();
            for (int place = 0; place < pad.count && badAct == NONE; place++) {
                if (pad.actBeginsAt(place)) {
                    take(pad, place, owner);
                }
            }
        }

        private void begin() {
            acts = 0;
            badAct = NONE;
            why = NONE;
            sailings = 0;
            sunkAct = NONE;
            sunkShip = NONE;
            sinkings = 0;
        }

        private void take(Pad pad, int place, Owner owner) {
            int kind = pad.kindAt(place), number = pad.shipNumberAt(place), v = pad.numberAt(place);
            int reason = owner.reasonAgainst(kind, number, v);
            if (reason != 0) {
                badAct = acts;
                why = reason;
                return;
            }
            owner.act(kind, number, v);
            if (kind == COME_HOME || kind == SINK) {
                sailings++;
            }
            if (kind == SINK) {
                noteSinking(number);
            }
            acts++;
        }

        private void noteSinking(int number) {
            if (sinkings == 0) {
                sunkAct = acts;
                sunkShip = number;
            }
            sinkings++;
        }
    }

    /** The TALES that were told, in their order. */
    private static final class Tales {
        final int[] ones, twos;
        final boolean[] sames;
        int count;

        Tales() {
            ones = new int[TALES];
            twos = new int[TALES];
            sames = new boolean[TALES];
        }

        boolean put(int one, int two, boolean same) {
            if (count < 0 || count >= TALES) {
                return false;
            }
            ones[count] = one;
            twos[count] = two;
            sames[count] = same;
            count++;
            return true;
        }

        void copyFrom(Tales other) {
            for (int tale = 0; tale < TALES; tale++) {
                ones[tale] = other.ones[tale];
                twos[tale] = other.twos[tale];
                sames[tale] = other.sames[tale];
            }
            count = other.count;
        }
    }

    /** What NAMES are, by the TALES that are not left out. */
    private static final class Namings {
        /** Of each NAME the first one that is the same ship. */
        final int[] firsts;
        /** Of first NAMES: with which others (bits) they are two ships. */
        final int[] others;
        /** Of first NAMES: the ship that is tried for them. */
        final int[] shipsTried;
        int firstLeftOut, leftOut;

        Namings() {
            firsts = new int[NAMES];
            others = new int[NAMES];
            shipsTried = new int[NAMES];
        }

        void hear(Tales tales) {
            for (int name = 0; name < NAMES; name++) {
                firsts[name] = name;
                others[name] = 0;
                shipsTried[name] = 0;
            }
            firstLeftOut = NONE;
            leftOut = 0;
            for (int tale = 0; tale < tales.count && tale < TALES; tale++) {
                if (!takes(tales.ones[tale], tales.twos[tale], tales.sames[tale])) {
                    if (leftOut == 0) {
                        firstLeftOut = tale;
                    }
                    leftOut++;
                }
            }
        }

        /** Takes a TALE with those ahead of it; false if it can not be true. */
        private boolean takes(int one, int two, boolean same) {
            int first = firstNameOf(one), second = firstNameOf(two);
            boolean alreadyOne = first == second, alreadyTwo = areTwo(first, second);
            if (same ? alreadyTwo : alreadyOne) {
                return false;
            }
            if (!same) {
                partNames(first, second);
            } else if (!alreadyOne) {
                joinNames(Math.min(first, second), Math.max(first, second));
            }
            return true;
        }

        int firstNameOf(int name) {
            return name >= 0 && name < NAMES ? firsts[name] : 0;
        }

        private boolean areTwo(int first, int second) {
            return first >= 0 && first < NAMES && (others[first] >> second & 1) == 1;
        }

        private void partNames(int first, int second) {
            if (within(first, 0, NAMES - 1) && within(second, 0, NAMES - 1)) {
                others[first] |= 1 << second;
                others[second] |= 1 << first;
            }
        }

        /** All that are the ship of the later NAME are now the ship of the earlier one. */
        private void joinNames(int earlier, int later) {
            for (int name = 0; name < NAMES; name++) {
                if (firsts[name] == later) {
                    firsts[name] = earlier;
                }
                if (areTwo(later, name)) {
                    partNames(earlier, name);
                }
            }
        }

        /** Whether a first NAME may be that ship, beside the first NAMES ahead of it as they are tried. */
        boolean mayBeOn(int name, int ship) {
            for (int ahead = 0; ahead < name && ahead < NAMES; ahead++) {
                if (firsts[ahead] == ahead && shipsTried[ahead] == ship && areTwo(name, ahead)) {
                    return false;
                }
            }
            return true;
        }

        void putOn(int name, int ship) {
            if (name >= 0 && name < NAMES) {
                shipsTried[name] = ship;
            }
        }
    }

    /** All but the PAD, as it was when it was kept. */
    private static final class Image {
        boolean kept;
        final Owner owner;
        final Tales tales;

        Image() {
            owner = new Owner();
            tales = new Tales();
        }
    }
}
