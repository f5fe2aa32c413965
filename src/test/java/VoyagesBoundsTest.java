import java.util.function.Supplier;

/** Promises 10 to 14: each ACT and each reason against it just at its bounds, and what is told behind VOYAGES. */
public final class VoyagesBoundsTest {
    private static final Bench BENCH = new Bench("VoyagesBoundsTest");
    private static final int UNKNOWN = Bench.UNKNOWN, OUTSIDE = Bench.OUTSIDE, STATE = Bench.STATE, NO = Bench.NO,
            NONE = Bench.NONE;
    private static final String[] DEEDS = {"i0", "i1", "i2", "l7", "p", "s", "x"};

    public static void main(String[] args) {
        noSuchShip();
        notAfloat();
        sumAboveMost();
        loadAlready();
        noLoad();
        crew();
        crewOfOtherActs();
        lastSeason();
        leastReason();
        judgedPlaces();
        sailings();
        judgeRefused();
        insuring();
        painting();
        comingHome();
        sinking();
        turning();
        behindBounds();
        behindRisk();
        totals();
        mostOfAll();
        firstSunk();
        doneActs();
        doneInFact();
        BENCH.end();
    }

    private static void due(String call, long got, long want) {
        BENCH.due(call, got, want);
    }

    /** Said to an object made anew: the first ACT that can not be, and why. */
    private static void judged(Supplier<BelowWorth> maker, String text, int act, int why) {
        BelowWorth x = maker.get();
        Bench.say(x, text);
        due("judge(0) of " + text, x.judge(0), act);
        due("judge(1) of " + text, x.judge(1), why);
        due("judge(2) of " + text + " is STATE", x.judge(2) == STATE ? 1 : 0, act == NONE ? 0 : 1);
        due("done() of " + text + " is STATE", x.done() == STATE ? 1 : 0, act == NONE ? 0 : 1);
    }

    private static void canBe(Supplier<BelowWorth> maker, String text) {
        judged(maker, text, NONE, NONE);
    }

    // ---- promise 10: the reasons

    private static void noSuchShip() {
        BENCH.sentence("promise 10", "1 there is no such SHIP");
        for (int ship = 0; ship < 6; ship++) {
            int number = ship;
            char letter = (char) ('A' + ship);
            Supplier<BelowWorth> maker = () -> {
                BelowWorth x = Bench.fleet();
                x.sell(number);
                return x;
            };
            for (String deed : DEEDS) {
                canBe(Bench::fleet, letter + deed);
                judged(maker, letter + deed, 0, 1);
                judged(BelowWorth::new, letter + deed, 0, 1);
                judged(maker, "." + letter + deed + ".", 1, 1);
            }
            canBe(maker, letter == 'F' ? "Ap" : (char) (letter + 1) + "p");
        }
    }

    private static BelowWorth withSunk(int ship) {
        BelowWorth x = Bench.fleet();
        Bench.say(x, (char) ('A' + ship) + "x");
        due("done()", x.done(), 1);
        return x;
    }

    private static void notAfloat() {
        BENCH.sentence("promise 10", "2 it is not AFLOAT");
        for (int ship = 0; ship < 6; ship++) {
            int number = ship;
            char letter = (char) ('A' + ship);
            for (String deed : DEEDS) {
                judged(() -> withSunk(number), letter + deed, 0, 2);
                judged(Bench::fleet, letter + "x" + letter + deed, 1, 2);
            }
            canBe(() -> withSunk(number), letter == 'F' ? "Ax" : (char) (letter + 1) + "x");
            canBe(() -> withSunk(number), ".");
        }
        canBe(Bench::fleet, "AsAp");
        judged(Bench::fleet, "AxBxCxDxExFxFx", 6, 2);
    }

    private static BelowWorth withSum(int office, int v) {
        BelowWorth x = Bench.fleet();
        x.insure(3, office, v);
        return x;
    }

    private static void sumAboveMost() {
        BENCH.sentence("promise 10", "3 the SUM would be above 99 (i)");
        for (int office = 0; office < 3; office++) {
            int at = office;
            String act = "Di" + office;
            for (int v : new int[] {0, 88, 89}) {
                canBe(() -> withSum(at, v), act);
            }
            for (int v : new int[] {90, 91, 98, 99}) {
                judged(() -> withSum(at, v), act, 0, 3);
            }
            canBe(() -> withSum(at, 79), act + act);
            judged(() -> withSum(at, 80), act + act, 1, 3);
            judged(() -> withSum(at, 79), act + act + act, 2, 3);
            // The others are full; this one is not.
            canBe(() -> {
                BelowWorth x = withSum((at + 1) % 3, 99);
                x.insure(3, (at + 2) % 3, 99);
                return x;
            }, act);
        }
    }

    private static void loadAlready() {
        BENCH.sentence("promise 10", "4 its LOAD is that already (l)");
        for (int load = 0; load <= 9; load++) {
            int loaded = load;
            for (int digit = 0; digit <= 9; digit++) {
                if (digit == load) {
                    judged(() -> Bench.one(1, 1, 1, loaded), "Al" + digit, 0, 4);
                } else {
                    canBe(() -> Bench.one(1, 1, 1, loaded), "Al" + digit);
                    judged(() -> Bench.one(1, 1, 1, loaded), "Al" + digit + "Al" + digit, 1, 4);
                }
            }
        }
        judged(() -> Bench.one(1, 1, 1, 5), "AsAl0", 1, 4);
        canBe(() -> Bench.one(1, 1, 1, 5), "AsAl5");
    }

    private static void noLoad() {
        BENCH.sentence("promise 10", "4 its LOAD is 0 (s, x)");
        for (String deed : new String[] {"s", "x"}) {
            judged(() -> Bench.one(1, 1, 1, 0), "A" + deed, 0, 4);
            judged(() -> Bench.one(1, 1, 1, 1), "Al0A" + deed, 1, 4);
            judged(() -> Bench.one(1, 1, 1, 1), "AsA" + deed, 1, 4);
            for (int load : new int[] {1, 2, 8, 9}) {
                canBe(() -> Bench.one(1, 1, 1, load), "A" + deed);
                canBe(() -> Bench.one(1, 1, 1, 0), "Al" + load + "A" + deed);
            }
        }
    }

    private static BelowWorth withNerve(int age, int load, int season, int nerve) {
        BelowWorth x = Bench.one(age, 1, 1, load);
        x.set(2, season);
        due("set(0, " + nerve + ")", x.set(0, nerve), 60);
        return x;
    }

    private static void crew() {
        BENCH.sentence("promise 10", "5 the CREW will not go (s, x): with a RISK above the NERVE");
        for (String act : new String[] {"As", "Ax"}) {
            for (int age : new int[] {0, 1, 39, 40}) {
                for (int load : new int[] {1, 2, 8, 9}) {
                    for (int season = 0; season < 2; season++) {
                        int risk = age + 3 * load + 15 * season, when = season;
                        judged(() -> withNerve(age, load, when, risk - 1), act, 0, 5);
                        canBe(() -> withNerve(age, load, when, risk), act);
                        canBe(() -> withNerve(age, load, when, risk + 1), act);
                    }
                }
            }
            judged(() -> withNerve(0, 1, 0, 0), act, 0, 5);
            canBe(() -> withNerve(40, 9, 1, 99), act);
            // 60 at first: AGE 33 and LOAD 9 are just that.
            canBe(() -> Bench.one(33, 1, 1, 9), act);
            judged(() -> Bench.one(34, 1, 1, 9), act, 0, 5);
        }
    }

    private static void crewOfOtherActs() {
        BENCH.sentence("promise 10", "5 (s, x), and no other ACT");
        for (String act : new String[] {"Ai0", "Al1", "Ap", "."}) {
            canBe(() -> withNerve(40, 9, 1, 0), act);
        }
        BENCH.sentence("promise 10", "RISK of a ship: AGE, and 3 for each LOAD, and 15 in winter");
        judged(() -> withNerve(20, 5, 0, 35), ".As", 1, 5);
        canBe(() -> withNerve(20, 5, 0, 50), ".As");
        judged(() -> withNerve(20, 5, 0, 49), ".As", 1, 5);
        canBe(() -> withNerve(20, 5, 1, 35), ".As");
        canBe(() -> withNerve(20, 5, 0, 35), "..As");
        judged(() -> withNerve(20, 5, 0, 35), "Al6Ax", 1, 5);
        canBe(() -> withNerve(20, 5, 0, 32), "Al4Ax");
        canBe(() -> withNerve(20, 5, 0, 25), "ApAx");
        judged(() -> withNerve(20, 5, 0, 24), "ApAx", 1, 5);
        judged(() -> withNerve(20, 5, 0, 35), "AsAl5As", 2, 5);
        canBe(() -> withNerve(20, 5, 0, 36), "AsAl5As");
    }

    private static BelowWorth atSeason(int seasons) {
        BelowWorth x = Bench.fleet();
        Bench.seasons(x, seasons, 0);
        due("seasons", x.told(5), seasons);
        return x;
    }

    private static void lastSeason() {
        BENCH.sentence("promise 10", "6 it is season 99 (.)");
        canBe(() -> atSeason(97), ".");
        canBe(() -> atSeason(97), "..");
        judged(() -> atSeason(97), "...", 2, 6);
        canBe(() -> atSeason(98), ".");
        judged(() -> atSeason(98), "..", 1, 6);
        judged(() -> atSeason(99), ".", 0, 6);
        judged(() -> atSeason(99), "Ap.Ap", 1, 6);
        for (String deed : DEEDS) {
            canBe(() -> atSeason(99), "A" + deed);
        }
        canBe(() -> atSeason(39), ".".repeat(60));
        judged(() -> atSeason(40), ".".repeat(60), 59, 6);
        BelowWorth x = atSeason(99);
        due("set(2, 1)", x.set(2, 1), 0);
        Bench.say(x, ".");
        due("judge(1), in winter", x.judge(1), 6);
    }

    /** SHIP 0 has sunk, and no ACT could be for another reason either. */
    private static BelowWorth sunkAndWorse(int load) {
        BelowWorth x = Bench.one(40, 1, 1, 1);
        Bench.say(x, "Ax");
        due("done()", x.done(), 1);
        x.insure(0, 0, 99);
        x.load(0, load);
        x.set(0, 0);
        return x;
    }

    private static void leastReason() {
        BENCH.sentence("promise 10", "the least of these reasons");
        judged(() -> sunkAndWorse(7), "Ai0", 0, 2);
        judged(() -> sunkAndWorse(7), "Al7", 0, 2);
        judged(() -> sunkAndWorse(7), "As", 0, 2);
        judged(() -> sunkAndWorse(7), "Ax", 0, 2);
        judged(() -> sunkAndWorse(0), "As", 0, 2);
        judged(() -> sunkAndWorse(0), "Ax", 0, 2);
        Supplier<BelowWorth> sold = () -> {
            BelowWorth x = sunkAndWorse(7);
            x.sell(0);
            return x;
        };
        for (String deed : DEEDS) {
            judged(sold, "A" + deed, 0, 1);
        }
        judged(() -> withNerve(40, 0, 1, 0), "As", 0, 4);
        judged(() -> withNerve(40, 0, 1, 0), "Ax", 0, 4);
        judged(() -> withNerve(40, 1, 1, 0), "As", 0, 5);
        judged(() -> withNerve(40, 1, 1, 0), "Ax", 0, 5);
    }

    // ---- promise 10: the place, sailings

    private static void judgedPlaces() {
        BENCH.sentence("promise 10", "the first ACT (from 0 on) that can not be");
        judged(Bench::fleet, "Al1ApBp", 0, 4);
        judged(Bench::fleet, "ApAl1Bp", 1, 4);
        judged(Bench::fleet, "ApBpAl1", 2, 4);
        judged(Bench::fleet, "Al1AxAxBl2", 0, 4);
        judged(() -> Bench.one(1, 1, 1, 1), "Ap".repeat(29) + "Bp", 29, 1);
        judged(() -> Bench.one(1, 1, 1, 1), "Bp" + "Ap".repeat(29), 0, 1);
        judged(() -> Bench.one(1, 1, 1, 1), ".".repeat(58) + "Bp", 58, 1);
        judged(() -> Bench.one(1, 1, 1, 1), "Ai0Al9As.ApBx", 5, 1);
        canBe(() -> Bench.one(1, 1, 1, 1), "Ap".repeat(30));
        canBe(BelowWorth::new, "");
    }

    private static void sailed(Supplier<BelowWorth> maker, String text, int sailings) {
        BelowWorth x = maker.get();
        Bench.say(x, text);
        for (int time = 1; time <= 3; time++) {
            due("judge(2) of " + text + ", asked " + time, x.judge(2), sailings);
            due("judge(0) of " + text + ", asked " + time, x.judge(0), NONE);
        }
    }

    private static void sailings() {
        BENCH.sentence("promise 10", "sailings (2)");
        sailed(BelowWorth::new, "", 0);
        sailed(Bench::fleet, ".Ai0Al9Ap", 0);
        sailed(Bench::fleet, "As", 1);
        sailed(Bench::fleet, "Ax", 1);
        sailed(Bench::fleet, "AsBx", 2);
        sailed(Bench::fleet, "AsBsCsDsEsFs", 6);
        sailed(Bench::fleet, "AxBxCxDxExFx", 6);
        sailed(() -> Bench.one(1, 1, 1, 0), "Al1As".repeat(12), 12);
        sailed(() -> Bench.one(1, 1, 1, 0), "Al1As".repeat(11) + "Al1Ax", 12);
    }

    private static BelowWorth said(String text) {
        BelowWorth x = Bench.fleet();
        Bench.say(x, text);
        return x;
    }

    private static void judgeRefused() {
        BENCH.sentence("promise 10", "the ACT (what = 0), why (1), sailings (2); NONE. OUTSIDE");
        int[] fine = {NONE, NONE, 2}, canNot = {2, 4, STATE};
        BENCH.bounds("judge", () -> said("AsBx."), (x, v) -> x.judge(v), 0, 2, OUTSIDE, v -> fine[v]);
        BENCH.bounds("judge", () -> said("AsBxAs"), (x, v) -> x.judge(v), 0, 2, OUTSIDE, v -> canNot[v]);
        BENCH.sentence("promise 10", "NO: there is a FAULT; STATE (2): some ACT can not be");
        for (String text : new String[] {"A", "z", "AsBx!", "AsAsA", "Ai3", "As.Al"}) {
            BENCH.bounds("judge", () -> said(text), (x, v) -> x.judge(v), 0, 2, OUTSIDE, v -> NO);
        }
    }

    // ---- promise 11, and what each ACT does

    private static void behindIs(BelowWorth x, String text, int ship, int... items) {
        Bench.say(x, text);
        for (int what = 0; what < 5; what++) {
            due("behind(" + ship + ", " + what + ") of " + text, x.behind(ship, what), items[what]);
        }
    }

    private static void insuring() {
        BENCH.sentence("promise 11", "i and a digit 0 to 2 (its SUM there is 10 more)");
        for (int office = 0; office < 3; office++) {
            for (int v : new int[] {0, 1, 88, 89}) {
                BelowWorth x = withSum(office, v);
                int sums = 43 + 53 + 33 - (33 + 10 * office) + v;
                behindIs(x, "", 3, 13, 4, sums, 25, 1);
                behindIs(x, "Di" + office, 3, 13, 4, sums + 10, 25, 1);
                due("SUM is not more in fact", x.told(42 + office), v);
                due("done()", x.done(), 1);
                due("SUM is more there", x.told(42 + office), v + 10);
                due("SUM elsewhere", x.told(42 + (office + 1) % 3), 33 + 10 * ((office + 1) % 3));
                due("SUM elsewhere", x.told(42 + (office + 2) % 3), 33 + 10 * ((office + 2) % 3));
            }
        }
        BENCH.sentence("promise 11", "all SUMS together");
        BelowWorth x = Bench.one(0, 0, 1, 0);
        behindIs(x, "", 0, 0, 0, 0, 0, 1);
        for (int office = 0; office < 3; office++) {
            x.insure(0, office, 99);
        }
        behindIs(x, "", 0, 0, 0, 297, 0, 1);
    }

    private static void painting() {
        BENCH.sentence("promise 11", "p (it is painted: AGE is half, cut)");
        int[][] halves = {{0, 0}, {1, 0}, {2, 1}, {3, 1}, {4, 2}, {5, 2}, {38, 19}, {39, 19}, {40, 20}};
        for (int[] half : halves) {
            behindIs(Bench.one(half[0], 1, 1, 0), "Ap", 0, half[1], 0, 0, half[1], 1);
            behindIs(Bench.one(half[0], 1, 1, 2), "ApAp", 0, half[1] / 2, 2, 0, half[1] / 2 + 6, 1);
        }
        BelowWorth x = Bench.fleet();
        behindIs(x, "Cp", 1, 11, 2, 123, 17, 1);
        behindIs(x, "Cp", 2, 6, 3, 126, 15, 1);
    }

    private static BelowWorth paid(int age, int load, int freight) {
        BelowWorth x = Bench.one(age, 99, 20, load);
        x.insure(0, 0, 98);
        x.set(1, freight);
        x.set(0, 99);
        return x;
    }

    private static void comingHome() {
        BENCH.sentence("promise 11", "s (it sails, and comes home: its AGE is 1 more, 40 at most, its LOAD 0)");
        int[][] ages = {{0, 1}, {1, 2}, {38, 39}, {39, 40}, {40, 40}};
        for (int[] age : ages) {
            for (int load : new int[] {1, 2, 8, 9}) {
                behindIs(paid(age[0], load, 5), "As", 0, age[1], 0, 98, age[1], 1);
            }
        }
        behindIs(paid(38, 1, 5), "AsAl1AsAl1As", 0, 40, 0, 98, 40, 1);
        BENCH.sentence("promise 12", "s (GAIN is more by its LOAD times FREIGHT)");
        for (int freight : new int[] {0, 1, 5, 19, 20}) {
            for (int load : new int[] {1, 2, 8, 9}) {
                BelowWorth x = paid(20, load, freight);
                totalIs(x, "As", 100000 + load * freight, 0, 0, 0);
                totalIs(x, "AsAl9As", 100000 + (load + 9) * freight, 0, 0, 0);
            }
        }
    }

    private static BelowWorth worthAndSums(int worth, int crew, int sum0, int sum1, int sum2) {
        BelowWorth x = Bench.one(40, worth, crew, 9);
        x.set(0, 99);
        x.insure(0, 0, sum0);
        x.insure(0, 1, sum1);
        x.insure(0, 2, sum2);
        return x;
    }

    private static void sinking() {
        BENCH.sentence("promise 12", "x (GAIN is more by its three SUMS, less by its WORTH; DROWNED is more by its CREW)");
        int[][] ships = {{99, 20, 0, 0, 0}, {0, 1, 99, 99, 99}, {99, 2, 99, 0, 0}, {99, 19, 0, 99, 0}, {99, 1, 0, 0, 99},
            {99, 20, 0, 0, 98}, {99, 20, 1, 0, 99}, {0, 1, 0, 0, 0}, {1, 1, 0, 0, 0}, {0, 1, 1, 0, 0}};
        for (int[] s : ships) {
            BelowWorth x = worthAndSums(s[0], s[1], s[2], s[3], s[4]);
            totalIs(x, "Ax", 100000 + s[2] + s[3] + s[4] - s[0], s[1], 0, 0);
            BENCH.sentence("promise 11", "x (it is not AFLOAT)");
            behindIs(x, "Ax", 0, 40, 9, s[2] + s[3] + s[4], 67, 0);
            due("told(17), as it is", x.told(17), 1);
            due("done()", x.done(), 1);
            due("told(17)", x.told(17), 0);
            BENCH.sentence("promise 12", "x (GAIN, DROWNED)");
            due("GAIN", x.told(8), 100000 + s[2] + s[3] + s[4] - s[0]);
            due("DROWNED", x.told(7), s[1]);
        }
    }

    private static void turning() {
        BENCH.sentence("promise 12", ". (the SEASON is the other one; it is a season more)");
        for (int season = 0; season < 2; season++) {
            for (int seasons : new int[] {0, 1, 39}) {
                BelowWorth x = new BelowWorth();
                Bench.seasons(x, seasons, season);
                for (int more : new int[] {0, 1, 2, 59, 60}) {
                    totalIs(x, ".".repeat(more), 100000, 0, (season + more) % 2, seasons + more);
                }
                due("SEASON as it is", x.told(4), season);
                due("done()", x.done(), 60);
                due("SEASON", x.told(4), season);
                due("seasons", x.told(5), seasons + 60);
            }
        }
    }

    private static void behindBounds() {
        BENCH.sentence("promise 11", "AGE (what = 0), LOAD (1), SUMS (2), RISK (3), AFLOAT (4). UNKNOWN; OUTSIDE");
        int[] items = {12, 3, 126, 21, 1};
        BENCH.bounds("behind, what", () -> said(""), (x, v) -> x.behind(2, v), 0, 4, OUTSIDE, v -> items[v]);
        BENCH.bounds("behind, what", () -> said("AsBx."), (x, v) -> x.behind(2, v), 0, 4, OUTSIDE, v -> v == 3 ? 36 : items[v]);
        BENCH.bounds("behind, what", () -> said("AsAs"), (x, v) -> x.behind(2, v), 0, 4, OUTSIDE, v -> STATE);
        BENCH.bounds("behind, what", () -> said("AsA"), (x, v) -> x.behind(2, v), 0, 4, OUTSIDE, v -> NO);
        BENCH.bounds("behind, SHIP", () -> said(""), (x, v) -> x.behind(v, 0), 0, 5, UNKNOWN, v -> 10 + v);
        BENCH.bounds("behind, SHIP", () -> said("AsAs"), (x, v) -> x.behind(v, 0), 0, 5, UNKNOWN, v -> STATE);
        BENCH.bounds("behind, SHIP", () -> said("AsA"), (x, v) -> x.behind(v, 0), 0, 5, UNKNOWN, v -> NO);
        BENCH.bounds("behind, the last SHIP", () -> Bench.one(7, 1, 1, 1), (x, v) -> x.behind(v, 0), 0, 0, UNKNOWN, v -> 7);
    }

    private static void behindRisk() {
        BENCH.sentence("promise 11", "RISK of a ship: of a hundred AGE, and 3 for each LOAD, and 15 in winter");
        for (int age : new int[] {0, 1, 39, 40}) {
            for (int load : new int[] {0, 1, 8, 9}) {
                BelowWorth x = Bench.one(age, 1, 1, load);
                int risk = age + 3 * load;
                behindIs(x, "", 0, age, load, 0, risk, 1);
                behindIs(x, ".", 0, age, load, 0, risk + 15, 1);
                behindIs(x, "..", 0, age, load, 0, risk, 1);
                x.set(2, 1);
                behindIs(x, "", 0, age, load, 0, risk + 15, 1);
                behindIs(x, ".", 0, age, load, 0, risk, 1);
                for (int digit : new int[] {0, 1, 8, 9}) {
                    if (digit != load) {
                        behindIs(x, "Al" + digit, 0, age, digit, 0, age + 3 * digit + 15, 1);
                    }
                }
            }
        }
    }

    // ---- promises 12 and 13

    private static void totalIs(BelowWorth x, String text, int... items) {
        Bench.say(x, text);
        for (int what = 0; what < 4; what++) {
            due("total(" + what + ") of " + text, x.total(what), items[what]);
        }
    }

    private static void totals() {
        BENCH.sentence("promise 12", "GAIN and 100000 (what = 0), DROWNED (1), SEASON (2), seasons (3). OUTSIDE; NO, STATE");
        int[] nothing = {100000, 0, 0, 0}, behind = {100000 + 5 + 123 - 21, 2, 1, 1};
        BENCH.bounds("total", () -> said(""), (x, v) -> x.total(v), 0, 3, OUTSIDE, v -> nothing[v]);
        BENCH.bounds("total", () -> said("AsBx."), (x, v) -> x.total(v), 0, 3, OUTSIDE, v -> behind[v]);
        BENCH.bounds("total", () -> said("AsAs"), (x, v) -> x.total(v), 0, 3, OUTSIDE, v -> STATE);
        BENCH.bounds("total", () -> said("AsA"), (x, v) -> x.total(v), 0, 3, OUTSIDE, v -> NO);
    }

    /** All six sail, worth or insured for as little or as much as can be. */
    private static BelowWorth allAlike(int worth, int sum, int crew, int load) {
        BelowWorth x = new BelowWorth();
        for (int ship = 0; ship < 6; ship++) {
            x.ship(ship, 0, worth, crew);
            x.load(ship, load);
            for (int office = 0; office < 3; office++) {
                x.insure(ship, office, sum);
            }
        }
        x.set(1, 20);
        return x;
    }

    private static void mostOfAll() {
        BENCH.sentence("promise 12", "GAIN and 100000, DROWNED: the least and the most of six SHIPS");
        String allSink = "AxBxCxDxExFx", allHome = "AsBsCsDsEsFs";
        totalIs(allAlike(99, 0, 20, 1), allSink, 100000 - 594, 120, 0, 0);
        totalIs(allAlike(0, 99, 1, 9), allSink, 100000 + 1782, 6, 0, 0);
        totalIs(allAlike(33, 11, 1, 9), allSink, 100000, 6, 0, 0);
        totalIs(allAlike(99, 99, 20, 9), allHome, 100000 + 1080, 0, 0, 0);
        totalIs(allAlike(99, 0, 20, 1), "AxBsCxDsExFs", 100000 - 297 + 60, 60, 0, 0);
    }

    private static void sunkIs(String text, int act, int which, int many) {
        int[] items = {act, which, many};
        BENCH.bounds("sunk of " + text, () -> said(text), (x, v) -> x.sunk(v), 0, 2, OUTSIDE, v -> items[v]);
    }

    private static void firstSunk() {
        BENCH.sentence("promise 13", "the ACT (what = 0; NONE), which (1; NONE), how many (2). OUTSIDE; NO, STATE");
        sunkIs("", NONE, NONE, 0);
        sunkIs("AsBs.Cp", NONE, NONE, 0);
        sunkIs("AsAs", STATE, STATE, STATE);
        sunkIs("BxAsAs", STATE, STATE, STATE);
        sunkIs("BxA", NO, NO, NO);
        for (int ship = 0; ship < 6; ship++) {
            String letter = "" + (char) ('A' + ship), next = "" + (char) ('A' + (ship + 1) % 6);
            sunkIs(letter + "x", 0, ship, 1);
            sunkIs("." + letter + "x", 1, ship, 1);
            sunkIs(next + "s" + letter + "x.", 1, ship, 1);
            sunkIs(letter + "x" + next + "x", 0, ship, 2);
            sunkIs("Ap".repeat(29) + letter + "x", 29, ship, 1);
        }
        sunkIs("FxExDxCxBxAx", 0, 5, 6);
        sunkIs("FsExDxCxBxAx", 1, 4, 5);
        sunkIs(".".repeat(58) + "Dx", 58, 3, 1);
    }

    // ---- promise 14

    private static void doneActs() {
        BENCH.sentence("promise 14", "VOYAGES are DONE (the PAD is empty then): ACTS");
        String[] texts = {"", ".", "As", "Ai0", "Al9", "As.", "AsBsCsDsEsFs", "Ap".repeat(30), ".".repeat(60),
            "Al9Al8".repeat(10)};
        int[] acts = {0, 1, 1, 1, 1, 2, 6, 30, 60, 20};
        for (int i = 0; i < texts.length; i++) {
            BelowWorth x = said(texts[i]);
            due("done() of " + texts[i], x.done(), acts[i]);
            due("told(0)", x.told(0), 0);
            due("wipe()", x.wipe(), 0);
            due("done() again", x.done(), 0);
            due("judge(0)", x.judge(0), NONE);
            due("say A", x.say('A'), 1);
            due("fault()", x.fault(), 1);
        }
        BENCH.sentence("promise 14", "NO, STATE, likewise");
        BENCH.refused("done()", () -> said("AsA"), x -> x.done(), NO);
        BENCH.refused("done()", () -> said("z"), x -> x.done(), NO);
        BENCH.refused("done()", () -> said("BxAsAs"), x -> x.done(), STATE);
        BENCH.refused("done()", () -> said(".".repeat(57) + "Ai3"), x -> x.done(), NO);
        BENCH.refused("done()", () -> said("Bp".repeat(28) + ".Al1"), x -> x.done(), STATE);
    }

    private static void doneInFact() {
        BENCH.sentence("promise 14", "It is so then");
        BelowWorth x = said("Ai2Al9As.ApBx");
        x.set(0, 38);
        due("done()", x.done(), 6);
        BENCH.shipIs("done", x, 0, 5, 20, 30, 40, 60, 0, 1, 1);
        BENCH.shipIs("done", x, 1, 11, 21, 31, 41, 51, 2, 2, 0);
        BENCH.shipIs("others", x, 2, 12, 22, 32, 42, 52, 3, 3, 1);
        int[] told = {0, 63, 38, 5, 1, 1, 0, 2, 100000 + 45 + 123 - 21};
        for (int what = 0; what < told.length; what++) {
            due("told(" + what + ")", x.told(what), told[what]);
        }
        totalIs(x, "", told[8], 2, 1, 1);
        behindIs(x, "", 1, 11, 2, 123, 32, 0);
        // What has sunk ahead is not told as sunk behind.
        due("sunk(0)", x.sunk(0), NONE);
        due("sunk(2)", x.sunk(2), 0);
    }
}
