import java.util.function.Supplier;

/** Promises 1 to 9: what is there at first, the bounds of each number, the PAD and THE FAULT. */
public final class ShipsBoundsTest {
    private static final Bench BENCH = new Bench("ShipsBoundsTest");
    private static final int UNKNOWN = Bench.UNKNOWN, OUTSIDE = Bench.OUTSIDE, STATE = Bench.STATE, FULL = Bench.FULL,
            NONE = Bench.NONE;
    private static final Supplier<BelowWorth> FLEET = Bench::fleet;

    public static void main(String[] args) {
        first();
        ships();
        howManyAre();
        anew();
        sold();
        insured();
        loaded();
        setNumbers();
        signs();
        howManySigns();
        wiped();
        faultOfEachSign();
        faultOfMore();
        faultOfFullPad();
        BENCH.end();
    }

    private static void due(String call, long got, long want) {
        BENCH.due(call, got, want);
    }

    // ---- promise 1

    private static void first() {
        BENCH.sentence("promise 1", "No SHIPS");
        for (int ship = 0; ship < 6; ship++) {
            int number = ship;
            BENCH.refused("sell(" + ship + ")", BelowWorth::new, x -> x.sell(number), UNKNOWN);
            BENCH.refused("insure(" + ship + ", ..)", BelowWorth::new, x -> x.insure(number, 0, 0), UNKNOWN);
            BENCH.refused("load(" + ship + ", 0)", BelowWorth::new, x -> x.load(number, 0), UNKNOWN);
            for (int item = 0; item < 10; item++) {
                int what = 10 * (1 + ship) + item;
                BENCH.refused("told(" + what + ")", BelowWorth::new, x -> x.told(what), OUTSIDE);
            }
        }
        BENCH.sentence("promise 1", "0 at first, 60 at first, 5 at first, summer at first");
        int[] firsts = {0, 0, 60, 5, 0, 0, 0, 0, 100000};
        for (int what = 0; what < firsts.length; what++) {
            due("told(" + what + ")", new BelowWorth().told(what), firsts[what]);
        }
        BENCH.sentence("promise 1", "no TALES, no FAULT, no IMAGES");
        BENCH.answers("fault()", BelowWorth::new, x -> x.fault(), NONE);
        BENCH.answers("wipe()", BelowWorth::new, x -> x.wipe(), 0);
        BENCH.answers("forget()", BelowWorth::new, x -> x.forget(), 0);
        BENCH.answers("broken(0)", BelowWorth::new, x -> x.broken(0), NONE);
        BENCH.answers("broken(1)", BelowWorth::new, x -> x.broken(1), 0);
        BENCH.answers("ones()", BelowWorth::new, x -> x.ones(), 1);
        BENCH.answers("restore(0)", BelowWorth::new, x -> x.restore(0), STATE);
        BENCH.answers("restore(1)", BelowWorth::new, x -> x.restore(1), STATE);
    }

    // ---- promise 2

    private static void ships() {
        BENCH.sentence("promise 2", "SHIPS 0 to 5");
        BENCH.bounds("ship, number", BelowWorth::new, (x, v) -> x.ship(v, 1, 1, 1), 0, 5, UNKNOWN, v -> 1);
        BENCH.bounds("ship, number of all", FLEET, (x, v) -> x.ship(v, 1, 1, 1), 0, 5, UNKNOWN, v -> 6);
        BENCH.sentence("promise 2", "AGE (0 to 40)");
        BENCH.bounds("ship, AGE", FLEET, (x, v) -> x.ship(3, v, 1, 1), 0, 40, OUTSIDE, v -> 6);
        BENCH.bounds("AGE told", () -> Bench.one(9, 9, 9, 9), (x, v) -> asTold(x, x.ship(5, v, 1, 1), 60), 0, 40, OUTSIDE, v -> v);
        BENCH.sentence("promise 2", "WORTH (0 to 99)");
        BENCH.bounds("ship, WORTH", FLEET, (x, v) -> x.ship(3, 1, v, 1), 0, 99, OUTSIDE, v -> 6);
        BENCH.bounds("WORTH told", () -> Bench.one(9, 9, 9, 9), (x, v) -> asTold(x, x.ship(5, 1, v, 1), 61), 0, 99, OUTSIDE, v -> v);
        BENCH.sentence("promise 2", "CREW (1 to 20)");
        BENCH.bounds("ship, CREW", FLEET, (x, v) -> x.ship(3, 1, 1, v), 1, 20, OUTSIDE, v -> 6);
        BENCH.bounds("CREW told", () -> Bench.one(9, 9, 9, 9), (x, v) -> asTold(x, x.ship(5, 1, 1, v), 66), 1, 20, OUTSIDE, v -> v);
    }

    /** What is told behind a call that is not refused, else the refusal. */
    private static int asTold(BelowWorth x, int answer, int what) {
        return answer < 0 ? answer : x.told(what);
    }

    private static void howManyAre() {
        BENCH.sentence("promise 2", "how many are");
        int[] order = {5, 0, 3, 1, 4, 2};
        BelowWorth x = new BelowWorth();
        for (int count = 1; count <= 6; count++) {
            due("ship, number " + count, x.ship(order[count - 1], 1, 1, 1), count);
            due("the same again", x.ship(order[count - 1], 2, 2, 2), count);
            due("the first again", x.ship(5, 3, 3, 3), count);
        }
    }

    private static void anew() {
        BENCH.sentence("promise 2", "anew: SUMS 0, LOAD 0, AFLOAT");
        for (int ship = 0; ship < 6; ship++) {
            BelowWorth x = Bench.fleet();
            Bench.say(x, (char) ('A' + ship) + "x");
            due("done()", x.done(), 1);
            BENCH.shipIs("sunk", x, ship, 10 + ship, 20 + ship, 30 + ship, 40 + ship, 50 + ship, 1 + ship, 1 + ship, 0);
            due("ship " + ship + " anew", x.ship(ship, 40, 99, 20), 6);
            BENCH.shipIs("anew", x, ship, 40, 99, 0, 0, 0, 0, 20, 1);
            due("GAIN", x.told(8), 100000 + 120 + 3 * ship - 20 - ship);
            due("DROWNED", x.told(7), 1 + ship);
            for (int other = 0; other < 6; other++) {
                if (other != ship) {
                    BENCH.shipIs("another", x, other, 10 + other, 20 + other, 30 + other, 40 + other, 50 + other,
                            1 + other, 1 + other, 1);
                }
            }
        }
    }

    // ---- promise 3

    private static void sold() {
        BENCH.sentence("promise 3", "UNKNOWN: it was not there");
        BENCH.bounds("sell, number", FLEET, (x, v) -> x.sell(v), 0, 5, UNKNOWN, v -> 5);
        for (int ship = 0; ship < 6; ship++) {
            int number = ship;
            BENCH.refused("sold already", () -> without(number), x -> x.sell(number), UNKNOWN);
            due("told(1)", without(ship).told(1), 63 - (1 << ship));
        }
        BENCH.sentence("promise 3", "how many there are");
        BelowWorth x = Bench.fleet();
        int[] order = {2, 5, 0, 4, 1, 3};
        for (int left = 5; left >= 0; left--) {
            due("sell, " + left + " are left", x.sell(order[5 - left]), left);
            due("once more", x.sell(order[5 - left]), UNKNOWN);
        }
        due("ship of none", x.ship(4, 0, 0, 1), 1);
        BENCH.shipIs("anew", x, 4, 0, 0, 0, 0, 0, 0, 1, 1);
        BENCH.answers("sell, sunk", () -> sunk(Bench.fleet(), 1), y -> y.sell(1), 5);
    }

    private static BelowWorth without(int ship) {
        BelowWorth x = Bench.fleet();
        x.sell(ship);
        return x;
    }

    private static BelowWorth sunk(BelowWorth x, int ship) {
        Bench.say(x, (char) ('A' + ship) + "x");
        due("done()", x.done(), 1);
        return x;
    }

    // ---- promises 4 and 5

    private static void insured() {
        BENCH.sentence("promise 4", "A SUM of a SHIP at an office: which it was. UNKNOWN");
        BENCH.bounds("insure, SHIP", FLEET, (x, v) -> x.insure(v, 1, 9), 0, 5, UNKNOWN, v -> 40 + v);
        for (int ship = 0; ship < 6; ship++) {
            int number = ship;
            BENCH.refused("insure, not there", () -> without(number), x -> x.insure(number, 0, 1), UNKNOWN);
        }
        BENCH.sentence("promise 4", "offices 0 to 2");
        BENCH.bounds("insure, office", FLEET, (x, v) -> x.insure(4, v, 9), 0, 2, OUTSIDE, v -> 34 + 10 * v);
        BENCH.sentence("promise 4", "SUMS (0 to 99 each; 0 at first)");
        for (int office = 0; office < 3; office++) {
            int at = office;
            BENCH.bounds("insure, v", FLEET, (x, v) -> x.insure(2, at, v), 0, 99, OUTSIDE, v -> 32 + 10 * at);
            BENCH.bounds("SUM told", FLEET, (x, v) -> asTold(x, x.insure(2, at, v), 32 + at), 0, 99, OUTSIDE, v -> v);
            BENCH.answers("at first", () -> Bench.one(1, 1, 1, 1), x -> x.insure(0, at, 99), 0);
            BelowWorth x = Bench.fleet();
            x.insure(2, office, 99);
            due("which it was", x.insure(2, office, 0), 99);
            BENCH.shipIs("the others stay", x, 2, 12, 22, at == 0 ? 0 : 32, at == 1 ? 0 : 42, at == 2 ? 0 : 52, 3, 3, 1);
            BENCH.shipIs("others", x, 1, 11, 21, 31, 41, 51, 2, 2, 1);
            BENCH.shipIs("others", x, 3, 13, 23, 33, 43, 53, 4, 4, 1);
        }
        BENCH.answers("insure, sunk", () -> sunk(Bench.fleet(), 1), x -> asTold(x, x.insure(1, 2, 7), 24), 7);
    }

    private static void loaded() {
        BENCH.sentence("promise 5", "LOAD of a SHIP: which it was. UNKNOWN");
        BENCH.bounds("load, SHIP", FLEET, (x, v) -> x.load(v, 9), 0, 5, UNKNOWN, v -> 1 + v);
        for (int ship = 0; ship < 6; ship++) {
            int number = ship;
            BENCH.refused("load, not there", () -> without(number), x -> x.load(number, 1), UNKNOWN);
        }
        BENCH.sentence("promise 5", "LOAD (0 to 9; 0 at first)");
        BENCH.bounds("load, v", FLEET, (x, v) -> x.load(2, v), 0, 9, OUTSIDE, v -> 3);
        BENCH.bounds("LOAD told", FLEET, (x, v) -> asTold(x, x.load(2, v), 35), 0, 9, OUTSIDE, v -> v);
        BelowWorth x = new BelowWorth();
        x.ship(2, 1, 1, 1);
        due("at first", x.load(2, 9), 0);
        due("which it was", x.load(2, 0), 9);
        due("which it was", x.load(2, 0), 0);
        BENCH.answers("load, sunk", () -> sunk(Bench.fleet(), 1), y -> asTold(y, y.load(1, 7), 25), 7);
    }

    // ---- promise 6

    private static void setNumbers() {
        BENCH.sentence("promise 6", "NERVE (which = 0), FREIGHT (1), SEASON (2)");
        int[] firsts = {60, 5, 0}, mosts = {99, 20, 1};
        BENCH.bounds("set, which", BelowWorth::new, (x, v) -> x.set(v, 1), 0, 2, OUTSIDE, v -> firsts[v]);
        for (int which = 0; which < 3; which++) {
            int number = which, most = mosts[which];
            BENCH.sentence("promise 6", number == 0 ? "NERVE (0 to 99; 60 at first)"
                    : number == 1 ? "FREIGHT (0 to 20; 5 at first)" : "SEASON 0 (summer, at first) or 1 (winter)");
            BENCH.bounds("set, v", BelowWorth::new, (x, v) -> x.set(number, v), 0, most, OUTSIDE, v -> firsts[number]);
            BENCH.bounds("told", BelowWorth::new, (x, v) -> asTold(x, x.set(number, v), 2 + number), 0, most, OUTSIDE, v -> v);
            BelowWorth x = new BelowWorth();
            x.set(which, most);
            due("which it was", x.set(which, most - 1), most);
            due("which it was", x.set(which, 0), most - 1);
            due("which it was", x.set(which, 1), 0);
            for (int other = 0; other < 3; other++) {
                due("the others stay", x.told(2 + other), other == which ? 1 : firsts[other]);
            }
            due("seasons", x.told(5), 0);
        }
    }

    // ---- promises 7 and 8

    private static void signs() {
        BENCH.sentence("promise 7", "signs (codes 33 to 126)");
        BENCH.bounds("say", BelowWorth::new, (x, v) -> x.say(v), 33, 126, OUTSIDE, v -> 1);
        BENCH.bounds("say, the 60th", () -> padOf(59), (x, v) -> x.say(v), 33, 126, OUTSIDE, v -> 60);
        for (int sign = 33; sign <= 126; sign++) {
            due("say(" + sign + ")", new BelowWorth().say(sign), 1);
        }
        BENCH.sentence("promise 7", "a PAD of up to 60 signs; how many");
        BelowWorth x = new BelowWorth();
        for (int count = 1; count <= 60; count++) {
            due("say", x.say('A'), count);
            due("told(0)", x.told(0), count);
        }
        BENCH.answers("the 59th", () -> padOf(58), y -> y.say('A'), 59);
        BENCH.answers("the 60th", () -> padOf(59), y -> y.say('A'), 60);
        BENCH.refused("the 61st", () -> padOf(60), y -> y.say('A'), FULL);
        BelowWorth full = padOf(60);
        due("the 61st", full.say('A'), FULL);
        due("the 62nd", full.say('A'), FULL);
        due("told(0)", full.told(0), 60);
    }

    private static BelowWorth padOf(int signs) {
        BelowWorth x = new BelowWorth();
        Bench.say(x, ".".repeat(signs));
        return x;
    }

    private static void howManySigns() {
        BENCH.sentence("promise 8", "Signs go: how many there were");
        for (int count : new int[] {0, 1, 2, 58, 59, 60}) {
            BelowWorth x = padOf(count);
            due("wipe()", x.wipe(), count);
            due("told(0)", x.told(0), 0);
            due("fault()", x.fault(), NONE);
            due("done()", x.done(), 0);
            due("wipe() again", x.wipe(), 0);
            due("say", x.say('A'), 1);
            due("fault()", x.fault(), 1);
        }
    }

    private static void wiped() {
        BENCH.sentence("promise 8", "Signs go (and nothing else)");
        BelowWorth x = Bench.rich("Ai1.Ax"), twin = Bench.rich("");
        due("wipe()", x.wipe(), 6);
        due("as if none had been said", Bench.all(x).equals(Bench.all(twin)) ? 1 : 0, 1);
        due("say F", x.say('F'), 1);
        due("fault() behind a wiped PAD", x.fault(), 1);
        due("say p", x.say('p'), 2);
        due("fault() behind a wiped PAD", x.fault(), NONE);
    }

    // ---- promise 9

    private static void faultIs(String text, int want) {
        BelowWorth x = new BelowWorth();
        Bench.say(x, text);
        due("fault() of " + text, x.fault(), want);
    }

    /** Each sign, said where an ACT begins, where a SHIP's deed, an office, a LOAD is due, first and behind ACTS. */
    private static void faultOfEachSign() {
        BENCH.sentence("promise 9", "the first sign that can not stand there, or the number of signs, if more must come");
        for (String ahead : new String[] {"", ".", "Fl9Ai2.Bp"}) {
            int begin = ahead.length();
            for (char sign = 33; sign <= 126; sign++) {
                boolean letter = sign >= 'A' && sign <= 'F';
                faultIs(ahead + sign, sign == '.' ? NONE : letter ? begin + 1 : begin);
                boolean whole = sign == 'p' || sign == 's' || sign == 'x', open = sign == 'i' || sign == 'l';
                faultIs(ahead + "C" + sign, whole ? NONE : open ? begin + 2 : begin + 1);
                faultIs(ahead + "Ci" + sign, sign >= '0' && sign <= '2' ? NONE : begin + 2);
                faultIs(ahead + "Cl" + sign, sign >= '0' && sign <= '9' ? NONE : begin + 2);
            }
        }
    }

    private static void faultOfMore() {
        BENCH.sentence("promise 9", "an empty PAD has no FAULT");
        faultIs("", NONE);
        BENCH.sentence("promise 9", "a SHIP's letter (A to F)");
        for (char letter = 'A'; letter <= 'F'; letter++) {
            faultIs("" + letter, 1);
            faultIs(letter + "i", 2);
            faultIs(letter + "l", 2);
            for (String deed : new String[] {"i0", "i2", "l0", "l9", "p", "s", "x"}) {
                faultIs(letter + deed, NONE);
                faultIs(letter + deed + letter, deed.length() + 2);
            }
        }
        faultIs("@p", 0);
        faultIs("Gp", 0);
        BENCH.sentence("promise 9", "the first sign that can not stand there");
        faultIs("zz", 0);
        faultIs(".zz", 1);
        faultIs("ApzA", 2);
        faultIs("AzAp", 1);
        faultIs("Ai3Al:", 2);
        faultIs("Ap..Al9Bq", 8);
        faultIs("zAp", 0);
        // ACTS that can not be are no FAULT: there is no SHIP at all.
        faultIs("AsAsBi0BxCl0", NONE);
    }

    private static void faultOfFullPad() {
        BENCH.sentence("promise 9", "the number of signs (60), if more must come");
        faultIs(".".repeat(60), NONE);
        faultIs(".".repeat(58) + "Ap", NONE);
        faultIs(".".repeat(57) + "Ai0", NONE);
        faultIs(".".repeat(59) + "A", 60);
        faultIs(".".repeat(58) + "Al", 60);
        faultIs(".".repeat(59) + "z", 59);
        faultIs(".".repeat(58) + "Ai", 60);
        faultIs(".".repeat(57) + "Ai3", 59);
        faultIs(".".repeat(58) + "A", 59);
        faultIs("z" + ".".repeat(59), 0);
        BelowWorth x = new BelowWorth();
        Bench.say(x, ".".repeat(59) + "A");
        due("say p, full", x.say('p'), FULL);
        due("fault() behind a refused sign", x.fault(), 60);
    }
}
