import java.util.function.Supplier;

/** Promises 15 to 20: what a voyage brings, how deep he loads, his share, losses, a fleet, two holds. */
public final class BringsBoundsTest {
    private static final Bench BENCH = new Bench("BringsBoundsTest");
    private static final int UNKNOWN = Bench.UNKNOWN, OUTSIDE = Bench.OUTSIDE, NONE = Bench.NONE;
    private static final long GONE = Bench.GONE;
    private static final Supplier<BelowWorth> FLEET = Bench::fleet;

    public static void main(String[] args) {
        meanBounds();
        meanOfExtremes();
        asThingsAreNow();
        noMatter();
        deepBounds();
        deepOfEach();
        shareBounds();
        leastShare();
        shareOfTogether();
        lossesBounds();
        lossesOfMany();
        lossesByRisk();
        lossesOfAfloat();
        lossesMean();
        fleetBounds();
        purse();
        fleetDigits();
        fleetTies();
        holdsBounds();
        holdsOfFew();
        holdsTies();
        BENCH.end();
    }

    private static void due(String call, long got, long want) {
        BENCH.due(call, got, want);
    }

    /** SHIP 0 alone, FREIGHT and SEASON set; its SUMS are so many together. */
    private static BelowWorth ship(int age, int worth, int sums, int freight, int season) {
        BelowWorth x = Bench.one(age, worth, 1, 0);
        for (int office = 0; office < 3; office++) {
            x.insure(0, office, Math.max(0, Math.min(99, sums - 99 * office)));
        }
        x.set(1, freight);
        x.set(2, season);
        due("all SUMS", x.behind(0, 2), sums);
        return x;
    }

    private static BelowWorth without(int ship) {
        BelowWorth x = Bench.fleet();
        x.sell(ship);
        return x;
    }

    private static BelowWorth sunk(BelowWorth x, String text) {
        Bench.say(x, text);
        due("done() of " + text, x.done(), text.length() / 2);
        return x;
    }

    // ---- promise 15

    private static void mean(Supplier<BelowWorth> maker, int n, long upper) {
        BENCH.fraction("mean(0, " + n + ")", maker, (x, part) -> x.mean(0, n, part), upper, 100);
    }

    private static void meanBounds() {
        BENCH.sentence("promise 15", "MEAN. UNKNOWN; OUTSIDE: with LOAD n (0 to 9)");
        for (int each = 0; each < 2; each++) {
            int part = each;
            BENCH.bounds("mean, n", FLEET, (x, n) -> x.mean(0, n, part), 0, 9, GONE + OUTSIDE,
                    n -> Bench.part((10 + 3 * n) * 100L + (90 - 3 * n) * n * 5L, 100, part));
            BENCH.bounds("mean, SHIP", FLEET, (x, s) -> x.mean(s, 0, part), 0, 5, GONE + UNKNOWN,
                    s -> Bench.part((10 + s) * (100L + 2 * s), 100, part));
        }
        for (int n = 0; n <= 9; n++) {
            mean(FLEET, n, (10 + 3 * n) * 100L + (90 - 3 * n) * n * 5L);
        }
        for (int ship = 0; ship < 6; ship++) {
            int number = ship;
            BENCH.refused("mean, not there", () -> without(number), x -> x.mean(number, 0, 0), GONE + UNKNOWN);
        }
    }

    private static void meanOfExtremes() {
        BENCH.sentence("promise 15", "the upper may be below 0");
        mean(() -> ship(40, 99, 0, 0, 1), 9, -8118);
        mean(() -> ship(40, 99, 0, 20, 1), 9, -8118 + 18 * 180);
        mean(() -> ship(1, 99, 0, 20, 0), 0, -99);
        mean(() -> ship(1, 1, 0, 20, 0), 0, -1);
        mean(() -> ship(1, 1, 1, 20, 0), 0, 0);
        mean(() -> ship(1, 0, 1, 20, 0), 0, 1);
        BENCH.sentence("promise 15", "by its RISK (of a hundred) its SUMS less its WORTH, else n times FREIGHT");
        mean(() -> ship(0, 99, 0, 20, 0), 0, 0);
        mean(() -> ship(0, 0, 297, 20, 0), 0, 0);
        mean(() -> ship(0, 0, 297, 20, 0), 9, 27 * 297 + 73 * 180);
        mean(() -> ship(40, 0, 297, 20, 1), 9, 82 * 297 + 18 * 180);
        mean(() -> ship(40, 0, 297, 0, 1), 0, 55 * 297);
        mean(() -> ship(0, 0, 0, 1, 0), 1, 97);
        mean(() -> ship(0, 0, 0, 0, 0), 1, 0);
        mean(() -> ship(0, 0, 1, 0, 1), 0, 15);
        mean(() -> ship(35, 97, 99, 5, 1), 0, 100);
    }

    private static void asThingsAreNow() {
        BENCH.sentence("promises 15 to 17", "As things are now");
        BelowWorth x = ship(10, 20, 30, 5, 0);
        Bench.say(x, ".Ai0ApAl9");
        due("mean(0, 1, 0), ACTS said", x.mean(0, 1, 0), (13 * 10 + 87 * 5) / 5);
        due("mean(0, 1, 1), ACTS said", x.mean(0, 1, 1), 20);
        due("done()", x.done(), 4);
        due("mean(0, 1, 0), ACTS done", x.mean(0, 1, 0), (23 * 20 + 77 * 5) / 5);
        due("mean(0, 1, 1), ACTS done", x.mean(0, 1, 1), 20);
    }

    /** One that could go on deeper the more he is insured for: AGE 40, in winter, FREIGHT 1. */
    private static BelowWorth sensitive(int worth, int sums) {
        return ship(40, worth, sums, 1, 1);
    }

    private static void noMatter() {
        BENCH.sentence("promises 15 to 17", "of a SHIP that is there, AFLOAT or not; the NERVE is no matter; nor its LOAD");
        Supplier<BelowWorth> afloat = () -> sensitive(20, 10);
        long upper = afloat.get().mean(0, 4, 0);
        due("mean(0, 4, 0)", upper, Bench.part(67 * -10 + 33 * 4, 100, 0));
        for (int load = 1; load <= 9; load++) {
            for (int nerve : new int[] {0, 99}) {
                BelowWorth x = afloat.get();
                x.load(0, load);
                x.set(0, 99);
                if (nerve == 0) {
                    sunk(x, "Ax");
                    due("AFLOAT", x.told(17), 0);
                }
                x.set(0, nerve);
                due("mean, LOAD " + load, x.mean(0, 4, 0), upper);
                due("deep, LOAD " + load, x.deep(0), 2);
                due("share, LOAD " + load, x.share(0, 1), 2);
            }
        }
    }

    // ---- promise 16

    private static void deepBounds() {
        BENCH.sentence("promise 16", "DEEP. UNKNOWN");
        BENCH.bounds("deep, SHIP", FLEET, (x, s) -> x.deep(s), 0, 5, UNKNOWN, s -> 9);
        for (int ship = 0; ship < 6; ship++) {
            int number = ship;
            BENCH.refused("deep, not there", () -> without(number), x -> x.deep(number), UNKNOWN);
        }
    }

    /**
     * SUMS less WORTH are d: of n he gains (55 + 3 n) d and (45 - 3 n) n of a hundred, most at (45 + 3 d) by 6.
     * That is n if d is 2 n - 15; n and n + 1 are alike if it is 2 n - 14.
     */
    private static void deepOfEach() {
        BENCH.sentence("promise 16", "the LOAD (1 to 9) by which that is most, the least of several");
        for (int n = 1; n <= 9; n++) {
            deepIs(2 * n - 15, n);
            deepIs(2 * n - 14, n);
        }
        BENCH.sentence("promise 16", "1, if less would be more");
        deepIs(-14, 1);
        deepIs(-15, 1);
        deepIs(-20, 1);
        BENCH.sentence("promise 16", "9, if more would be more");
        deepIs(5, 9);
        deepIs(6, 9);
        deepIs(277, 9);
        BENCH.sentence("promise 16", "the least of several, if all are alike");
        BENCH.answers("deep of nothing", () -> ship(40, 20, 20, 0, 1), x -> x.deep(0), 1);
        BENCH.answers("deep, 1 below", () -> ship(40, 20, 19, 0, 1), x -> x.deep(0), 1);
        BENCH.answers("deep, 1 above", () -> ship(40, 20, 21, 0, 1), x -> x.deep(0), 9);
    }

    private static void deepIs(int d, int want) {
        BENCH.answers("deep, SUMS less WORTH are " + d, () -> sensitive(20, 20 + d), x -> x.deep(0), want);
    }

    // ---- promise 17

    private static void shareBounds() {
        BENCH.sentence("promise 17", "SHARE; NONE. UNKNOWN; OUTSIDE: v (1 to 9)");
        // 29, 26, 23, 20, 17, 14, 11, 8 are paid by 0 to 7 tenths: DEEP is 9, 9, 9, 7, 6, 4, 3, 1.
        int[] shares = {NONE, 7, 7, 6, 5, 5, 4, 3, 3, 0};
        BENCH.bounds("share, v", () -> sensitive(20, 29), (x, v) -> x.share(0, v), 1, 9, OUTSIDE, v -> shares[v]);
        for (int v = 1; v <= 9; v++) {
            due("share(0, " + v + ")", sensitive(20, 29).share(0, v), shares[v]);
        }
        BENCH.bounds("share, SHIP", FLEET, (x, s) -> x.share(s, 9), 0, 5, UNKNOWN, s -> 0);
        for (int ship = 0; ship < 6; ship++) {
            int number = ship;
            BENCH.refused("share, not there", () -> without(number), x -> x.share(number, 9), UNKNOWN);
        }
    }

    private static void shareIs(int worth, int sums, int v, int want) {
        String call = "share(0, " + v + "), WORTH " + worth + ", SUMS " + sums;
        BENCH.answers(call, () -> sensitive(worth, sums), x -> x.share(0, v), want);
    }

    /** Of WORTH 20 DEEP is 1 if 8 or less are paid, of WORTH 10 it is 2 if nothing is, 3 if it is 1. */
    private static void leastShare() {
        BENCH.sentence("promise 17", "the least share (tenths 0 to 10): 0");
        shareIs(20, 0, 1, 0);
        shareIs(20, 7, 1, 0);
        shareIs(20, 8, 1, 0);
        shareIs(20, 9, 1, 1);
        BENCH.sentence("promise 17", "the least share (tenths 0 to 10): 9 and 10");
        shareIs(20, 88, 1, 9);
        shareIs(20, 89, 1, 9);
        shareIs(20, 90, 1, 10);
        shareIs(20, 297, 1, 10);
        shareIs(10, 9, 2, 9);
        shareIs(10, 10, 2, 10);
        shareIs(10, 11, 2, 10);
        BENCH.sentence("promise 17", "so that DEEP is no more than v; NONE");
        for (int sums : new int[] {0, 1, 9, 10, 297}) {
            shareIs(10, sums, 1, NONE);
            shareIs(10, sums, 9, 0);
        }
        shareIs(0, 297, 6, NONE);
        shareIs(0, 297, 7, 10);
        shareIs(0, 0, 7, 0);
        shareIs(0, 0, 6, NONE);
    }

    private static void shareOfTogether() {
        BENCH.sentence("promise 17", "SUMS times the rest of the tenths, by 10, cut to whole ones");
        shareIs(20, 20, 1, 6);
        shareIs(20, 21, 1, 6);
        shareIs(20, 22, 1, 6);
        shareIs(20, 23, 1, 7);
        shareIs(20, 29, 1, 7);
        shareIs(20, 30, 1, 8);
        shareIs(20, 44, 1, 8);
        shareIs(20, 45, 1, 9);
        BENCH.sentence("promise 17", "of its SUMS together so much less is paid");
        BelowWorth x = sensitive(20, 0);
        x.insure(0, 0, 7);
        x.insure(0, 1, 7);
        x.insure(0, 2, 9);
        due("share(0, 1) of 7, 7, 9", x.share(0, 1), 7);
        x.insure(0, 2, 8);
        due("share(0, 1) of 7, 7, 8", x.share(0, 1), 6);
    }

    // ---- promise 18

    private static void losses(Supplier<BelowWorth> maker, int k, long upper, long lower) {
        BENCH.fraction("losses(" + k + ")", maker, (x, part) -> x.losses(k, part), upper, lower);
    }

    /** So many SHIPS AFLOAT of RISK 50: AGE 35, in winter; each brings 10 if it is lost. */
    private static BelowWorth halves(int many) {
        BelowWorth x = new BelowWorth();
        for (int ship = 0; ship < many; ship++) {
            x.ship(5 - ship, 35, 20, 1);
            x.insure(5 - ship, 1, 30);
        }
        x.set(2, 1);
        return x;
    }

    private static void lossesBounds() {
        BENCH.sentence("promise 18", "that so many or more are (k 0 to 6), the mean (k = -1). OUTSIDE");
        int[] ways = {64, 63, 57, 42, 22, 7, 1};
        for (int each = 0; each < 2; each++) {
            int part = each;
            BENCH.bounds("losses, k", () -> halves(6), (x, k) -> x.losses(k, part), -1, 6, GONE + OUTSIDE,
                    k -> k < 0 ? Bench.part(30, 1, part) : Bench.part(ways[k], 64, part));
        }
        for (int k = 0; k <= 6; k++) {
            losses(() -> halves(6), k, ways[k], 64);
        }
        losses(() -> halves(6), -1, 30, 1);
    }

    private static void lossesOfMany() {
        BENCH.sentence("promise 18", "all SHIPS that are AFLOAT sail once: none to six of them");
        int[][] ways = {{1}, {2, 1}, {4, 3, 1}, {8, 7, 4, 1}, {16, 15, 11, 5, 1}, {32, 31, 26, 16, 6, 1}};
        for (int many = 0; many < 6; many++) {
            int ships = many;
            for (int k = 0; k <= 6; k++) {
                losses(() -> halves(ships), k, k <= many ? ways[many][k] : 0, 1 << many);
            }
            losses(() -> halves(ships), -1, 5 * many, 1);
        }
    }

    private static BelowWorth six(int age, int worth, int load, int season) {
        BelowWorth x = new BelowWorth();
        for (int ship = 0; ship < 6; ship++) {
            x.ship(ship, age, worth, 1);
            x.load(ship, load);
        }
        x.set(2, season);
        return x;
    }

    private static void lossesByRisk() {
        BENCH.sentence("promise 18", "each lost by its RISK, by itself: the least and the highest RISK");
        long hundreds = 1000000000000L;
        losses(() -> six(0, 1, 0, 0), 1, 0, 1);
        losses(() -> six(0, 1, 0, 0), 6, 0, 1);
        losses(() -> six(0, 1, 0, 0), 0, 1, 1);
        losses(() -> six(1, 1, 0, 0), 6, 1, hundreds);
        losses(() -> six(1, 1, 0, 0), 1, hundreds - 941480149401L, hundreds);
        losses(() -> six(40, 99, 9, 1), 6, 304006671424L, hundreds);
        losses(() -> six(40, 99, 9, 1), 1, hundreds - 34012224L, hundreds);
        losses(() -> six(40, 99, 9, 1), 0, 1, 1);
        // The NERVE is no matter, and a LOAD of 0 neither.
        losses(() -> {
            BelowWorth x = six(40, 99, 9, 1);
            x.set(0, 0);
            return x;
        }, 6, 304006671424L, hundreds);
        losses(() -> Bench.one(10, 1, 1, 0), 1, 10, 100);
        losses(() -> Bench.one(10, 1, 1, 1), 1, 13, 100);
    }

    private static void lossesOfAfloat() {
        BENCH.sentence("promise 18", "all SHIPS that are AFLOAT");
        losses(() -> sunk(Bench.fleet(), "AxBxCxDxExFx"), 1, 0, 1);
        losses(() -> sunk(Bench.fleet(), "AxBxCxDxExFx"), -1, 0, 1);
        losses(() -> sunk(Bench.fleet(), "AxBxCxDxEx"), 1, 33, 100);
        losses(() -> sunk(Bench.fleet(), "AxBxCxDxEx"), 2, 0, 1);
        losses(() -> sunk(Bench.fleet(), "BxCxDxExFx"), 1, 13, 100);
        losses(() -> sunk(Bench.fleet(), "CxDxExFx"), 2, 13 * 17, 10000);
        losses(() -> sunk(without(0), "CxDxExFx"), 1, 17, 100);
        losses(() -> sunk(without(0), "CxDxExFx"), 2, 0, 1);
        losses(() -> {
            BelowWorth x = sunk(Bench.fleet(), "BxCxDxExFx");
            x.ship(3, 7, 1, 1);
            return x;
        }, 2, 13 * 7, 10000);
    }

    private static void lossesMean() {
        BENCH.sentence("promise 18", "the mean of what the owner gains (SUMS less WORTH, or LOAD times FREIGHT, of each)");
        long all = 0;
        for (int s = 0; s < 6; s++) {
            int risk = 10 + s + 3 * (1 + s);
            all += risk * (100 + 2 * s) + (100 - risk) * (1 + s) * 5;
        }
        losses(FLEET, -1, all, 100);
        losses(() -> six(40, 99, 9, 1), -1, 6 * (82 * -99 + 18 * 45), 100);
        losses(() -> six(0, 99, 0, 0), -1, 0, 1);
        losses(() -> six(1, 99, 0, 0), -1, -594, 100);
        losses(() -> ship(40, 0, 297, 20, 1), -1, 55 * 297, 100);
        losses(() -> ship(1, 0, 1, 20, 0), -1, 1, 100);
        losses(() -> ship(1, 1, 1, 20, 0), -1, 0, 1);
        losses(() -> ship(1, 1, 0, 20, 0), -1, -1, 100);
        losses(() -> sunk(Bench.fleet(), "BxCxDxExFx"), -1, 13 * 100 + 87 * 5, 100);
    }

    // ---- promise 19

    private static void fleetBounds() {
        BENCH.sentence("promise 19", "OUTSIDE: both numbers 0 to 999999, v, what");
        for (int each = 0; each < 2; each++) {
            int what = each;
            // With 45 all can be had for 0 or 1; of five nines and an 8, or six nines, the last can not.
            BENCH.bounds("fleet, prices", FLEET, (x, v) -> x.fleet(v, 111111, 45, what), 0, 999999, OUTSIDE,
                    v -> v > 1 ? (what == 0 ? 5 : 31) : what == 0 ? 6 : 63);
            BENCH.bounds("fleet, what is brought", FLEET, (x, v) -> x.fleet(0, v, 0, what), 0, 999999, OUTSIDE,
                    v -> what == 0 ? (v < 2 ? v : v == 999998 ? 53 : 54) : v == 0 ? 0 : v == 1 ? 32 : 63);
            BENCH.bounds("fleet, v", FLEET, (x, v) -> x.fleet(999999, 999999, v, what), 0, 54, OUTSIDE,
                    v -> v < 2 ? 0 : what == 0 ? (v == 54 ? 54 : 45) : v == 54 ? 63 : 31);
        }
        int[] both = {15, 7};
        BENCH.bounds("fleet, what", FLEET, (x, v) -> x.fleet(123456, 654321, 6, v), 0, 1, OUTSIDE, v -> both[v]);
        BENCH.sentence("promise 19", "be they there or not");
        BENCH.bounds("fleet, what", BelowWorth::new, (x, v) -> x.fleet(123456, 654321, 6, v), 0, 1, OUTSIDE, v -> both[v]);
    }

    private static void fleet(int prices, int brings, int v, int most, int which) {
        String call = "fleet(" + prices + ", " + brings + ", " + v;
        BENCH.answers(call + ", 0)", BelowWorth::new, x -> x.fleet(prices, brings, v, 0), most);
        BENCH.answers(call + ", 1)", BelowWorth::new, x -> x.fleet(prices, brings, v, 1), which);
    }

    private static void purse() {
        BENCH.sentence("promise 19", "those to buy with a purse v for most together");
        for (int price = 1; price <= 9; price++) {
            fleet(price * 1000, 4000, price - 1, 0, 0);
            fleet(price * 1000, 4000, price, 4, 4);
            fleet(price * 1000, 4000, price + 1, 4, 4);
            // Two of them: one is had, then both.
            fleet(price * 110000, 340000, price - 1, 0, 0);
            fleet(price * 110000, 340000, price, 4, 2);
            fleet(price * 110000, 340000, 2 * price - 1, 4, 2);
            fleet(price * 110000, 340000, 2 * price, 7, 3);
        }
        fleet(999999, 999999, 53, 45, 31);
        fleet(999999, 999999, 54, 54, 63);
        fleet(999999, 111111, 8, 0, 0);
        fleet(999999, 111111, 9, 1, 1);
        // The dearest brings as much as the two others less 1, as much, and 1 more.
        fleet(954000, 632000, 9, 6, 1);
        fleet(954000, 533000, 9, 6, 6);
        fleet(954000, 633000, 9, 6, 1);
        fleet(954000, 733000, 9, 7, 1);
        // What costs nothing is had with an empty purse, if it brings something.
        fleet(100001, 111111, 0, 4, 30);
        fleet(0, 0, 0, 0, 0);
        fleet(0, 0, 54, 0, 0);
        fleet(111111, 0, 54, 0, 0);
    }

    private static void fleetDigits() {
        BENCH.sentence("promise 19", "six digits each, SHIP 0's the highest; bit 0 SHIP 0");
        int place = 100000;
        for (int ship = 0; ship < 6; ship++) {
            fleet(0, place, 0, 1, 1 << ship);
            fleet(0, 9 * place, 0, 9, 1 << ship);
            fleet(place, place, 0, 0, 0);
            fleet(place, place, 1, 1, 1 << ship);
            fleet(999999 - 9 * place, 999999, 0, 9, 1 << ship);
            fleet(9 * place, 111111, 8, 5, 63 - (1 << ship));
            place /= 10;
        }
        fleet(102030, 101010, 3, 2, 5);
        fleet(102030, 101010, 5, 2, 5);
        fleet(102030, 101010, 6, 3, 21);
    }

    private static void fleetTies() {
        BENCH.sentence("promise 19", "which, least as bits");
        for (int v = 0; v <= 7; v++) {
            int many = Math.min(v, 6);
            fleet(111111, 111111, v, many, (1 << many) - 1);
        }
        // SHIPS that bring nothing are left out, though they cost nothing.
        fleet(0, 10, 0, 1, 16);
        fleet(0, 101010, 54, 3, 21);
        // 0 and 1 together, or 2: as much.
        fleet(112000, 112000, 2, 2, 3);
        fleet(211000, 211000, 2, 2, 1);
        fleet(2, 2, 2, 2, 32);
        fleet(112, 112, 2, 2, 24);
        fleet(211, 211, 2, 2, 8);
    }

    // ---- promise 20

    private static void holdsBounds() {
        BENCH.sentence("promise 20", "HOLDS: how much more (what = 0), which (1). OUTSIDE");
        BENCH.bounds("holds, weights", FLEET, (x, v) -> x.holds(v, 0), 0, 999999, OUTSIDE, v -> v == 1 || v == 999998 ? 1 : 0);
        BENCH.bounds("holds, weights", FLEET, (x, v) -> x.holds(v, 1), 0, 999999, OUTSIDE, v -> v < 2 ? 0 : 7);
        int[] both = {1, 1};
        BENCH.bounds("holds, what", BelowWorth::new, (x, v) -> x.holds(12, v), 0, 1, OUTSIDE, v -> both[v]);
        BENCH.bounds("holds, what", BelowWorth::new, (x, v) -> x.holds(532110, v), 0, 1, OUTSIDE, v -> v == 0 ? 0 : 26);
    }

    private static void holds(int weights, int more, int which) {
        BENCH.answers("holds(" + weights + ", 0)", BelowWorth::new, x -> x.holds(weights, 0), more);
        BENCH.answers("holds(" + weights + ", 1)", BelowWorth::new, x -> x.holds(weights, 1), which);
    }

    private static void holdsOfFew() {
        BENCH.sentence("promise 20", "six digits, 0: none");
        holds(0, 0, 0);
        int place = 1;
        for (int digit = 0; digit < 6; digit++) {
            // One goes into the second hold, so that the bits are least.
            holds(place, 1, 0);
            holds(9 * place, 9, 0);
            int other = 1;
            for (int second = 0; second < digit; second++) {
                holds(place + other, 0, 1 << second);
                holds(9 * place + 9 * other, 0, 1 << second);
                holds(9 * place + other, 8, 1 << second);
                holds(place + 2 * other, 1, 1 << second);
                other *= 10;
            }
            place *= 10;
        }
    }

    private static void holdsTies() {
        BENCH.sentence("promise 20", "which go into the first, least as bits (the last digit is bit 0; of both ways round)");
        holds(111111, 0, 7);
        holds(11111, 1, 3);
        holds(999999, 0, 7);
        holds(99999, 9, 3);
        holds(111, 1, 1);
        holds(112, 0, 1);
        holds(211, 0, 3);
        holds(121, 0, 2);
        holds(113, 1, 1);
        holds(311, 1, 3);
        holds(211000, 0, 24);
        holds(112000, 0, 8);
        holds(900001, 8, 1);
        holds(911111, 4, 31);
        holds(511111, 0, 31);
        holds(411111, 1, 15);
    }
}
