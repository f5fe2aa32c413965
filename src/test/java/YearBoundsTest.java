import java.util.ArrayList;
import java.util.List;
import java.util.function.Supplier;

/** Promise 27: the bounds of a YEAR's numbers, each draw just at its bounds, and YEARS told once more as VOYAGES. */
public final class YearBoundsTest {
    private static final Bench BENCH = new Bench("YearBoundsTest");
    private static final int OUTSIDE = Bench.OUTSIDE, STATE = Bench.STATE;
    private static final int SEEDS = 10000;

    public static void main(String[] args) {
        numbers();
        firstActs();
        risks();
        crews();
        loads();
        sums();
        ages();
        lastSeason();
        notThere();
        fromAllAsItIs();
        notInFact();
        asVoyages();
        BENCH.end();
    }

    private static void due(String call, long got, long want) {
        BENCH.due(call, got, want);
    }

    // ---- what is drawn

    private static int behind(int x) {
        return (int) ((75L * x + 74) % 65537);
    }

    /** The ACT that x draws for SHIPS of one RISK; "s" or "x" stands for itself. */
    private static String drawn(int x, int risk) {
        String letter = "" + (char) ('A' + x % 6);
        int by = x / 48;
        switch (x / 6 % 8) {
            case 0: return letter + "i" + by % 3;
            case 1:
            case 2: return letter + "l" + by % 10;
            case 3: return letter + "p";
            case 4: return ".";
            default: return letter + (by % 100 < risk ? "x" : "s");
        }
    }

    private interface Fits {
        boolean is(int first, int second);
    }

    /** All seeds, from 0 on and so many at most, whose first two numbers fit. */
    private static List<Integer> seeds(int most, Fits fits) {
        List<Integer> found = new ArrayList<>();
        for (int seed = 0; seed < SEEDS && found.size() < most; seed++) {
            int first = behind(seed);
            if (fits.is(first, behind(first))) {
                found.add(seed);
            }
        }
        due("there are such seeds", found.isEmpty() ? 0 : 1, 1);
        return found;
    }

    private static int ship(int x) {
        return x % 6;
    }

    private static int draw(int x) {
        return x / 6 % 8;
    }

    private static int hundredth(int x) {
        return x / 48 % 100;
    }

    private static void year(Supplier<BelowWorth> maker, int seed, int m, int... items) {
        for (int what = 0; what < 3; what++) {
            int asked = what;
            BENCH.answers("year(" + seed + ", " + m + ", " + what + ")", maker, x -> x.year(seed, m, asked), items[what]);
        }
    }

    // ---- the bounds of the numbers

    private static void numbers() {
        BENCH.sentence("promise 27", "a seed (0 to 9999)");
        BENCH.bounds("year, seed", Bench::fleet, (x, seed) -> x.year(seed, 1, 2), 0, 9999, OUTSIDE,
                seed -> drawn(behind(seed), 13 + 4 * ship(behind(seed))).endsWith("x") ? 5 : 6);
        BENCH.sentence("promise 27", "m ACTS (1 to 99)");
        BENCH.bounds("year, m", YearBoundsTest::sunk, (x, m) -> x.year(7, m, 2), 1, 99, OUTSIDE, m -> 0);
        BENCH.sentence("promise 27", "GAIN and 100000 (what = 0), DROWNED (1), AFLOAT (2). OUTSIDE");
        int[] items = {100000 + 6 * 100 + 30, 21, 0};
        BENCH.bounds("year, what", YearBoundsTest::sunk, (x, what) -> x.year(7, 99, what), 0, 2, OUTSIDE, v -> items[v]);
    }

    /** All six have sunk: no ACT can be but . */
    private static BelowWorth sunk() {
        BelowWorth x = Bench.fleet();
        Bench.say(x, "AxBxCxDxExFx");
        due("done()", x.done(), 6);
        return x;
    }

    private static void firstActs() {
        BENCH.sentence("promise 27", "x, the seed at first, becomes (75 x and 74) left over by 65537: of SHIP x left over by 6");
        // 872 becomes 65474, 873 goes round and becomes 12.
        due("behind(872)", behind(872), 65474);
        due("behind(873)", behind(873), 12);
        int[] seen = new int[48];
        for (int seed = 0; seed < SEEDS; seed++) {
            int first = behind(seed);
            seen[8 * ship(first) + draw(first)]++;
            if (draw(first) < 5) {
                year(YearBoundsTest::alike, seed, 1, 100000, 0, 6);
            } else if (hundredth(first) < 25) {
                year(YearBoundsTest::alike, seed, 1, 100050, 1 + ship(first), 5);
            } else {
                year(YearBoundsTest::alike, seed, 1, 100025, 0, 6);
            }
        }
        for (int i = 0; i < seen.length; i++) {
            due("there are such seeds", seen[i] > 0 ? 1 : 0, 1);
        }
    }

    /** All six are alike, of RISK 25: WORTH 20, 70 insured, CREW as their number and 1. */
    private static BelowWorth alike() {
        BelowWorth x = new BelowWorth();
        for (int ship = 0; ship < 6; ship++) {
            x.ship(ship, 10, 20, 1 + ship);
            x.load(ship, 5);
            x.insure(ship, 1, 70);
        }
        return x;
    }

    // ---- sailings

    private static BelowWorth only(int ship, int age, int load, int season, int nerve) {
        BelowWorth x = new BelowWorth();
        x.ship(ship, age, 20, 3);
        x.load(ship, load);
        x.insure(ship, 2, 31);
        x.set(2, season);
        x.set(0, nerve);
        return x;
    }

    /** In that YEAR only() sails once, with that LOAD: it sinks or comes home. */
    private static void sailsOnce(Supplier<BelowWorth> maker, int seed, int m, boolean sinks, int load) {
        year(maker, seed, m, sinks ? 100011 : 100000 + 5 * load, sinks ? 3 : 0, sinks ? 0 : 1);
    }

    private static void risks() {
        BENCH.sentence("promise 27", "else it sails, and sinks, if x by 48 (cut) left over by 100 is below its RISK");
        int[] least = new int[8], most = new int[8];
        for (int seed : seeds(SEEDS, (x, y) -> draw(x) >= 5)) {
            int first = behind(seed), load = 1 + seed % 9, season = seed / 9 % 2;
            for (int risk = hundredth(first) - 1; risk <= hundredth(first) + 1; risk++) {
                int age = risk - 3 * load - 15 * season;
                if (age >= 0 && age <= 40) {
                    sailsOnce(() -> only(ship(first), age, load, season, 99), seed, 1, hundredth(first) < risk, load);
                    least[draw(first)] += age == 0 ? 1 : 0;
                    most[draw(first)] += age == 40 ? 1 : 0;
                }
            }
        }
        for (int draw = 5; draw < 8; draw++) {
            due("seen at the least and the most AGE: " + draw, least[draw] > 0 && most[draw] > 0 ? 1 : 0, 1);
        }
    }

    private static void crews() {
        BENCH.sentence("promise 27", "each if that can be: the CREW will not go");
        for (int seed : seeds(200, (x, y) -> draw(x) >= 5)) {
            int first = behind(seed);
            year(() -> only(ship(first), 20, 5, 0, 34), seed, 1, 100000, 0, 1);
            for (int nerve = 35; nerve <= 36; nerve++) {
                int held = nerve;
                sailsOnce(() -> only(ship(first), 20, 5, 0, held), seed, 1, hundredth(first) < 35, 5);
            }
        }
    }

    private static void loads() {
        BENCH.sentence("promise 27", "1, 2 its LOAD is x by 48 (cut) left over by 10");
        int[] seen = new int[10];
        for (int seed : seeds(SEEDS, (x, y) -> (draw(x) == 1 || draw(x) == 2) && ship(x) == ship(y) && draw(y) >= 5)) {
            int first = behind(seed), load = first / 48 % 10, later = hundredth(behind(first));
            seen[load]++;
            for (int age : new int[] {0, later - 3 * load, later + 1 - 3 * load, 40}) {
                for (int before = 0; before <= 9 && age >= 0 && age <= 40; before++) {
                    int ahead = before;
                    Supplier<BelowWorth> maker = () -> only(ship(first), age, ahead, 0, 99);
                    sailsOnce(maker, seed, 2, load > 0 && later < age + 3 * load, load);
                }
            }
        }
        for (int load = 0; load <= 9; load++) {
            due("seen LOAD " + load, seen[load] > 0 ? 1 : 0, 1);
        }
        BENCH.sentence("promise 27", "each if that can be: its LOAD is 0");
        for (int seed : seeds(200, (x, y) -> draw(x) >= 5)) {
            year(() -> only(ship(behind(seed)), 40, 0, 1, 99), seed, 1, 100000, 0, 1);
            sailsOnce(() -> only(ship(behind(seed)), 40, 1, 1, 99), seed, 1, hundredth(behind(seed)) < 58, 1);
        }
    }

    private static void sums() {
        BENCH.sentence("promise 27", "0 it is insured at office x by 48 (cut) left over by 3, if that can be");
        int[] seen = new int[3];
        for (int seed : seeds(SEEDS, (x, y) -> draw(x) == 0 && ship(x) == ship(y) && draw(y) >= 5 && hundredth(y) < 82)) {
            int first = behind(seed), office = first / 48 % 3;
            seen[office]++;
            for (int sum : new int[] {0, 88, 89, 90, 91, 99}) {
                for (int other = 0; other < 3; other++) {
                    int at = other;
                    Supplier<BelowWorth> maker = () -> {
                        BelowWorth x = only(ship(first), 40, 9, 1, 99);
                        x.insure(ship(first), 2, 0);
                        x.insure(ship(first), at, sum);
                        return x;
                    };
                    year(maker, seed, 2, 100000 - 20 + sum + (at == office && sum > 89 ? 0 : 10), 3, 0);
                }
            }
        }
        for (int office = 0; office < 3; office++) {
            due("seen office " + office, seen[office] > 0 ? 1 : 0, 1);
        }
    }

    private static void ages() {
        BENCH.sentence("promise 27", "3 it is painted (AGE is half, cut)");
        int[][] halves = {{0, 0}, {1, 0}, {2, 1}, {3, 1}, {38, 19}, {39, 19}, {40, 20}};
        for (int seed : seeds(SEEDS, (x, y) -> draw(x) == 3 && ship(x) == ship(y) && draw(y) >= 5)) {
            int first = behind(seed), later = hundredth(behind(first));
            for (int[] half : halves) {
                for (int load = 1; load <= 9; load++) {
                    int loaded = load;
                    Supplier<BelowWorth> summer = () -> only(ship(first), half[0], loaded, 0, 99);
                    Supplier<BelowWorth> winter = () -> only(ship(first), half[0], loaded, 1, 99);
                    sailsOnce(summer, seed, 2, later < half[1] + 3 * load, load);
                    sailsOnce(winter, seed, 2, later < half[1] + 3 * load + 15, load);
                }
            }
        }
    }

    // ---- seasons, SHIPS that are not there

    private static void lastSeason() {
        BENCH.sentence("promise 27", "4 the SEASON is the other one, if that can be (6 it is season 99)");
        for (int seed : seeds(40, (x, y) -> draw(x) == 4 && draw(y) >= 5 && hundredth(y) >= 20 && hundredth(y) < 60)) {
            int second = behind(behind(seed)), later = hundredth(second);
            for (int risk : new int[] {later + 1, later, later - 14, later - 15}) {
                int load = Math.max(1, Math.min(9, (risk - 2) / 3)), age = risk - 3 * load;
                for (int seasons : new int[] {0, 97, 98, 99}) {
                    for (int season = 0; season < 2; season++) {
                        int now = season, then = seasons < 99 ? 1 - season : season;
                        Supplier<BelowWorth> maker = () -> passed(only(ship(second), age, load, 0, 99), seasons, now);
                        sailsOnce(maker, seed, 2, later < risk + 15 * then, load);
                    }
                }
            }
        }
    }

    private static BelowWorth passed(BelowWorth x, int seasons, int season) {
        Bench.seasons(x, seasons, season);
        due("seasons", x.told(5), seasons);
        return x;
    }

    private static void notThere() {
        BENCH.sentence("promise 27", "each if that can be: there is no such SHIP, it is not AFLOAT");
        for (int draw = 0; draw < 8; draw++) {
            int drawn = draw;
            for (int seed : seeds(100, (x, y) -> draw(x) == drawn)) {
                int number = ship(behind(seed));
                year(BelowWorth::new, seed, 1, 100000, 0, 0);
                year(() -> {
                    BelowWorth x = alike();
                    x.sell(number);
                    return x;
                }, seed, 1, 100000, 0, 5);
                year(() -> {
                    BelowWorth x = alike();
                    Bench.say(x, (char) ('A' + number) + "x");
                    x.done();
                    return x;
                }, seed, 1, 100050, 1 + number, 5);
            }
        }
        year(BelowWorth::new, 0, 99, 100000, 0, 0);
        year(BelowWorth::new, 9999, 99, 100000, 0, 0);
        year(YearBoundsTest::sunk, 9999, 99, 100630, 21, 0);
    }

    private static void fromAllAsItIs() {
        BENCH.sentence("promise 27", "from all as it is; GAIN, and 100000; DROWNED; how many are AFLOAT");
        int seed = seeds(1, (x, y) -> draw(x) == 6 && ship(x) == 2 && hundredth(x) < 25).get(0);
        BelowWorth x = alike();
        for (String text : new String[] {"Ax", "BxDx", "Es."}) {
            Bench.say(x, text);
            due("done()", x.done() > 0 ? 1 : 0, 1);
            due("GAIN", x.year(seed, 1, 0), x.told(8) + 50);
            due("DROWNED", x.year(seed, 1, 1), x.told(7) + 3);
            due("AFLOAT", x.year(seed, 1, 2), x.told(17) + x.told(27) + x.told(47) + x.told(57) + x.told(67));
        }
        x.sell(4);
        x.sell(1);
        due("AFLOAT, but for what is sold", x.year(seed, 1, 2), 1);
    }

    private static void notInFact() {
        BENCH.sentence("promise 27", "Nothing is DONE in fact");
        for (int seed = 0; seed < SEEDS; seed += 101) {
            BelowWorth x = Bench.rich("Ai1.Ax");
            x.year(seed, 99, seed % 3);
            due("as it was", Bench.all(x).equals(Bench.all(Bench.rich("Ai1.Ax"))) ? 1 : 0, 1);
            due("again", Bench.rich("").year(seed, 99, 0), twice(seed));
        }
    }

    private static int twice(int seed) {
        BelowWorth x = Bench.rich("");
        x.year(SEEDS - 1 - seed, 99, 0);
        return x.year(seed, 99, 0);
    }

    // ---- once more as VOYAGES

    private static void asVoyages() {
        BENCH.sentence("promise 27", "A YEAR of m ACTS, each if that can be: as those VOYAGES");
        for (int seed = 0; seed < SEEDS; seed += 37) {
            for (int m : new int[] {1, 2, 3, 49, 98, 99}) {
                List<String> acts = acts(seed, m);
                BelowWorth x = done(acts);
                int afloat = 0;
                for (int ship = 0; ship < 6; ship++) {
                    afloat += x.told(17 + 10 * ship);
                }
                year(Bench::fleet, seed, m, x.told(8), x.told(7), afloat);
            }
        }
    }

    /** The ACTS of that YEAR of a fleet() that can be. */
    private static List<String> acts(int seed, int m) {
        List<String> acts = new ArrayList<>();
        BelowWorth now = Bench.fleet();
        int x = seed, calls = 0;
        for (int act = 0; act < m; act++) {
            if (calls > 150) {
                now = done(acts);
                calls = 0;
            }
            x = behind(x);
            String text = drawn(x, now.behind(ship(x), 3));
            Bench.say(now, text);
            if (now.done() != STATE) {
                acts.add(text);
            }
            now.wipe();
            calls += 7;
        }
        return acts;
    }

    /** A fleet() that has done so much; up to 60 signs at a time, so that few calls are needed. */
    private static BelowWorth done(List<String> acts) {
        BelowWorth x = Bench.fleet();
        StringBuilder text = new StringBuilder();
        for (String act : acts) {
            if (text.length() + act.length() > 60) {
                Bench.say(x, text.toString());
                due("done()", x.done() > 0 ? 1 : 0, 1);
                text.setLength(0);
            }
            text.append(act);
        }
        Bench.say(x, text.toString());
        due("done()", x.done() >= 0 ? 1 : 0, 1);
        return x;
    }
}
